/-! THE WORLD AS IT STANDS BEHIND THE CONSTRUCTORS: 153 cells; final references are known by their places -/
def shL : List (Nat × Nat) := [(8, 0), (12, 100), (14, 6), (4, 0), (0, 0), (10, 20), (15, 6), (2, 0), (10, 100), (10, 10), (10, 10), (1, 0), (5, 0), (10, 5), (10, 5), (10, 5), (5, 0), (10, 10), (10, 10), (10, 10), (5, 0), (10, 8), (10, 8), (10, 8), (6, 0), (10, 6), (10, 6), (10, 6), (10, 6), (11, 6), (11, 6), (10, 24), (10, 6), (10, 36), (10, 6), (1, 0), (5, 0), (10, 5), (10, 5), (10, 5), (5, 0), (10, 10), (10, 10), (10, 10), (5, 0), (10, 8), (10, 8), (10, 8), (6, 0), (10, 6), (10, 6), (10, 6), (10, 6), (11, 6), (11, 6), (10, 24), (10, 6), (10, 36), (10, 6), (6, 0), (10, 6), (10, 6), (10, 6), (10, 6), (11, 6), (11, 6), (10, 24), (10, 6), (10, 36), (10, 6), (3, 0), (10, 6), (2, 0), (10, 100), (10, 10), (10, 10), (2, 0), (10, 100), (10, 10), (10, 10), (2, 0), (10, 100), (10, 10), (10, 10), (2, 0), (10, 100), (10, 10), (10, 10), (2, 0), (10, 100), (10, 10), (10, 10), (2, 0), (10, 100), (10, 10), (10, 10), (7, 0), (13, 60), (7, 0), (13, 60), (7, 0), (13, 60), (7, 0), (13, 60), (7, 0), (13, 60), (7, 0), (13, 60), (9, 0), (10, 6), (10, 6), (10, 6), (10, 6), (10, 24), (10, 100), (10, 6), (10, 60), (10, 60), (10, 60), (10, 60), (10, 600), (10, 101), (10, 20), (11, 100), (10, 36), (10, 6), (10, 6), (10, 6), (10, 5), (10, 5), (11, 5), (10, 6), (10, 10), (10, 10), (10, 8), (10, 8), (10, 6), (10, 6), (10, 6), (10, 6), (10, 24), (10, 5), (10, 5), (10, 10), (10, 10), (10, 8), (10, 8), (11, 5), (10, 20), (10, 6), (10, 6), (13, 360), (13, 60)]
def SH (k : Nat) : Nat × Nat := shL.getD k (0, 0)
def frX : List Int := [11, 35, 0, 59, 1, 0, 2, 0, 3, 70, 4, 6]
def frM : List Int := [0, 0, 0, 0, 0, 109, 110, 111, 112, 113, 0, 0, 0, 0, 0, 114, 115, 116, 117, 118, 119, 120, 121, 0, 0, 0, 122, 123, 124, 0, 0, 0, 0, 0, 125, 126, 127, 0, 0, 0, 128, 129, 130, 131, 0, 0, 132, 133, 134, 135, 0, 0, 0, 0, 0, 0, 0, 0, 0, 0, 136, 137, 138, 139, 140, 141, 142, 143, 144, 145, 146, 147, 0, 148, 149, 150, 151, 152]
def finR (kd j : Nat) : Bool := if kd < 10 then (fldN kd j).2.2.2 && isRefT (fldT kd j) else decide (14 ≤ kd)
/-- where final reference b of cell a leads -/
def FR (a b : Int) : Int := match (SH a.toNat).1 with
  | 0 => a + 1
  | 1 => if b = 0 then a + 13 else if b < 4 then a + 4 * b - 3 else 0
  | 2 => if b = 0 then a + 1 else a + b
  | 3 => if b = 0 then 59 else a + 1
  | 5 => a + 1 + b
  | 6 => a + 1 + b
  | 7 => a + 1
  | 8 => frX.getD b.toNat 0
  | 9 => frM.getD b.toNat 0
  | 14 => if 0 ≤ b ∧ b < 6 then 72 + 4 * b else -1
  | 15 => if 0 ≤ b ∧ b < 6 then 96 + 2 * b else -1
  | _ => 0
abbrev ct : Type := Int → Int → Int
def mrg (c : ct) : ct := fun a b => if finR (SH a.toNat).1 b.toNat = true then FR a b else c a b
abbrev wG (c : ct) : hp := (153, SH, mrg c)
def isS (x : Int) (kd len : Nat) : Prop := 0 ≤ x ∧ x < 153 ∧ SH x.toNat = (kd, len)
theorem isS.C {x : Int} {kd len : Nat} (h : isS x kd len) (c : ct) : isC (wG c) x kd len := h
theorem mrg_n {x : Int} {kd len : Nat} (h : isS x kd len) {j : Int} (hf : finR kd j.toNat = false) (c : ct) : mrg c x j = c x j := by
  simp only [mrg, h.2.2, hf]
  rfl
theorem mrg_f {x : Int} {kd len : Nat} (h : isS x kd len) {j : Int} (hf : finR kd j.toNat = true) (c : ct) : mrg c x j = FR x j := by
  simp only [mrg, h.2.2, hf, if_true]
theorem mrg_up {x : Int} {kd len : Nat} (h : isS x kd len) {j v : Int} (hf : finR kd j.toNat = false) (c : ct) : up2 (mrg c) x j v = mrg (up2 c x j v) := by
  funext a b
  simp only [up2, mrg]
  by_cases e : a = x ∧ b = j
  · obtain ⟨rfl, rfl⟩ := e
    simp [h.2.2, hf]
  · simp only [e, if_false]
theorem mrg_row {x : Int} {kd len : Nat} (h : isS x kd len) (hf : ∀ j, finR kd j = false) (f g : Int → Int) (hg : ∀ j, f j = g j) (c : ct) : upRow (mrg c) x f = mrg (upRow c x g) := by
  funext a b
  simp only [upRow, mrg]
  by_cases e : a = x
  · subst e
    simp [h.2.2, hf, hg]
  · simp only [e, if_false]
theorem fin_arr {kd : Nat} (h : 10 ≤ kd ∧ kd < 14) (j : Nat) : finR kd j = false := by
  have h1 : ¬ kd < 10 := by omega
  have h2 : ¬ 14 ≤ kd := by omega
  simp [finR, h1, h2]
/-- what a typed end asks -/
abbrev eI (Q : ct → Int → Prop) : hp → av → Prop := fun G v => ∃ c, G = wG c ∧ ∃ r, v = (0, r) ∧ Q c r
abbrev eL2 (Q : ct → Int → Prop) : hp → av → Prop := fun G v => ∃ c, G = wG c ∧ ∃ r, v = (1, r) ∧ Q c r
abbrev eV (Q : ct → Prop) : hp → av → Prop := fun G v => ∃ c, G = wG c ∧ v = (8, 0) ∧ Q c
abbrev eA (Q : ct → Int → Prop) : hp → av → Prop := fun G v => ∃ c, G = wG c ∧ ∃ r, v = (3, r) ∧ Q c r
abbrev SK : Type := Launch × Nat × (Nat → Int)
def WI (K : SK) (d : Nat) (y : mth) (pc : Nat) (L st : List av) (c : ct) (Q : ct → Int → Prop) : Prop := WP K d y 0 0 pc L st (wG c) (eI Q)
def WLg (K : SK) (d : Nat) (y : mth) (pc : Nat) (L st : List av) (c : ct) (Q : ct → Int → Prop) : Prop := WP K d y 0 0 pc L st (wG c) (eL2 Q)
def WV (K : SK) (d : Nat) (y : mth) (pc : Nat) (L st : List av) (c : ct) (Q : ct → Prop) : Prop := WP K d y 0 0 pc L st (wG c) (eV Q)
def WA (K : SK) (d : Nat) (y : mth) (pc : Nat) (L st : List av) (c : ct) (Q : ct → Int → Prop) : Prop := WP K d y 0 0 pc L st (wG c) (eA Q)
def CI (K : SK) (d : Nat) (y : mth) (vs : List av) (c : ct) (Q : ct → Int → Prop) : Prop := CM K d y vs (wG c) (eI Q)
def CL (K : SK) (d : Nat) (y : mth) (vs : List av) (c : ct) (Q : ct → Int → Prop) : Prop := CM K d y vs (wG c) (eL2 Q)
def CV (K : SK) (d : Nat) (y : mth) (vs : List av) (c : ct) (Q : ct → Prop) : Prop := CM K d y vs (wG c) (eV Q)
def CA (K : SK) (d : Nat) (y : mth) (vs : List av) (c : ct) (Q : ct → Int → Prop) : Prop := CM K d y vs (wG c) (eA Q)
theorem CI.mono {K : SK} {d : Nat} {y : mth} {vs : List av} {c : ct} {Q Q' : ct → Int → Prop} (h : CI K d y vs c Q) (hQ : ∀ c' r, Q c' r → Q' c' r) : CI K d y vs c Q' := CM.mono h (fun _ _ ⟨c', e, r, e2, q⟩ => ⟨c', e, r, e2, hQ _ _ q⟩)
theorem CL.mono {K : SK} {d : Nat} {y : mth} {vs : List av} {c : ct} {Q Q' : ct → Int → Prop} (h : CL K d y vs c Q) (hQ : ∀ c' r, Q c' r → Q' c' r) : CL K d y vs c Q' := CM.mono h (fun _ _ ⟨c', e, r, e2, q⟩ => ⟨c', e, r, e2, hQ _ _ q⟩)
theorem CA.mono {K : SK} {d : Nat} {y : mth} {vs : List av} {c : ct} {Q Q' : ct → Int → Prop} (h : CA K d y vs c Q) (hQ : ∀ c' r, Q c' r → Q' c' r) : CA K d y vs c Q' := CM.mono h (fun _ _ ⟨c', e, r, e2, q⟩ => ⟨c', e, r, e2, hQ _ _ q⟩)
theorem CV.mono {K : SK} {d : Nat} {y : mth} {vs : List av} {c : ct} {Q Q' : ct → Prop} (h : CV K d y vs c Q) (hQ : ∀ c', Q c' → Q' c') : CV K d y vs c Q' := CM.mono h (fun _ _ ⟨c', e, e2, q⟩ => ⟨c', e, e2, hQ _ q⟩)
/-- fewer locals known -/
def wk (L' L : List av) : Prop := ∀ (i : Nat) (v : av), L'[i]? = some v → v.1 ≠ 9 → L[i]? = some v
theorem wk_n : wk [] [] := fun _ _ h => by simp at h
theorem wk_e {a : av} {L' L : List av} (h : wk L' L) : wk (a :: L') (a :: L)
  | 0, _, h0, _ => h0
  | i + 1, v, h0, h9 => h i v (by simpa using h0) h9
theorem wk_u {x : Int} {a : av} {L' L : List av} (h : wk L' L) : wk ((9, x) :: L') (a :: L)
  | 0, v, h0, h9 => by simp at h0; subst h0; exact absurd rfl h9
  | i + 1, v, h0, h9 => h i v (by simpa using h0) h9
theorem WP_wk {K : SK} {d : Nat} {y : mth} {kc ks pc : Nat} {L L' st : List av} {G : hp} {Q : hp → av → Prop} (hw : wk L' L) (k : WP K d y kc ks pc L' st G Q) : WP K d y kc ks pc L st G Q := by
  intro p e s m args below meth c D cA ros fm A n0 ad0 QW ad H locs ls C hR hS hn0 ha hl
  exact k p e s m args below meth c D cA ros fm A n0 ad0 QW ad H locs ls C hR hS hn0 ha ⟨hl.1, hl.2.1, fun i v hi h9 => hl.2.2 i v (hw i v hi h9) h9⟩
def isTab (t : Int) : Prop := t = 24 ∨ t = 48 ∨ t = 59
def isHou (t : Int) : Prop := t = 7 ∨ t = 72 ∨ t = 76 ∨ t = 80 ∨ t = 84 ∨ t = 88 ∨ t = 92
def isRow (t : Int) (n : Nat) : Prop := ((t = 12 ∨ t = 36) ∧ n = 5) ∨ ((t = 16 ∨ t = 40) ∧ n = 10) ∨ ((t = 20 ∨ t = 44) ∧ n = 8)
def isEve (t : Int) : Prop := t = 11 ∨ t = 35
def isTap (t : Int) : Prop := t = 96 ∨ t = 98 ∨ t = 100 ∨ t = 102 ∨ t = 104 ∨ t = 106
theorem tab_s {t : Int} (h : isTab t) : isS t 6 0 := by rcases h with rfl | rfl | rfl <;> (unfold isS; decide)
theorem tab_0 {t : Int} (h : isTab t) : isS (t + 1) 10 6 := by rcases h with rfl | rfl | rfl <;> (unfold isS; decide)
theorem tab_f0 {t : Int} (h : isTab t) : FR t 0 = t + 1 := by rcases h with rfl | rfl | rfl <;> decide
theorem tab_1 {t : Int} (h : isTab t) : isS (t + 2) 10 6 := by rcases h with rfl | rfl | rfl <;> (unfold isS; decide)
theorem tab_f1 {t : Int} (h : isTab t) : FR t 1 = t + 2 := by rcases h with rfl | rfl | rfl <;> decide
theorem tab_2 {t : Int} (h : isTab t) : isS (t + 3) 10 6 := by rcases h with rfl | rfl | rfl <;> (unfold isS; decide)
theorem tab_f2 {t : Int} (h : isTab t) : FR t 2 = t + 3 := by rcases h with rfl | rfl | rfl <;> decide
theorem tab_3 {t : Int} (h : isTab t) : isS (t + 4) 10 6 := by rcases h with rfl | rfl | rfl <;> (unfold isS; decide)
theorem tab_f3 {t : Int} (h : isTab t) : FR t 3 = t + 4 := by rcases h with rfl | rfl | rfl <;> decide
theorem tab_4 {t : Int} (h : isTab t) : isS (t + 5) 11 6 := by rcases h with rfl | rfl | rfl <;> (unfold isS; decide)
theorem tab_f4 {t : Int} (h : isTab t) : FR t 4 = t + 5 := by rcases h with rfl | rfl | rfl <;> decide
theorem tab_5 {t : Int} (h : isTab t) : isS (t + 6) 11 6 := by rcases h with rfl | rfl | rfl <;> (unfold isS; decide)
theorem tab_f5 {t : Int} (h : isTab t) : FR t 5 = t + 6 := by rcases h with rfl | rfl | rfl <;> decide
theorem tab_6 {t : Int} (h : isTab t) : isS (t + 7) 10 24 := by rcases h with rfl | rfl | rfl <;> (unfold isS; decide)
theorem tab_f6 {t : Int} (h : isTab t) : FR t 6 = t + 7 := by rcases h with rfl | rfl | rfl <;> decide
theorem tab_7 {t : Int} (h : isTab t) : isS (t + 8) 10 6 := by rcases h with rfl | rfl | rfl <;> (unfold isS; decide)
theorem tab_f7 {t : Int} (h : isTab t) : FR t 7 = t + 8 := by rcases h with rfl | rfl | rfl <;> decide
theorem tab_8 {t : Int} (h : isTab t) : isS (t + 9) 10 36 := by rcases h with rfl | rfl | rfl <;> (unfold isS; decide)
theorem tab_f8 {t : Int} (h : isTab t) : FR t 8 = t + 9 := by rcases h with rfl | rfl | rfl <;> decide
theorem tab_9 {t : Int} (h : isTab t) : isS (t + 10) 10 6 := by rcases h with rfl | rfl | rfl <;> (unfold isS; decide)
theorem tab_f9 {t : Int} (h : isTab t) : FR t 9 = t + 10 := by rcases h with rfl | rfl | rfl <;> decide
theorem hou_s {t : Int} (h : isHou t) : isS t 2 0 := by rcases h with rfl | rfl | rfl | rfl | rfl | rfl | rfl <;> (unfold isS; decide)
theorem hou_0 {t : Int} (h : isHou t) : isS (t + 1) 10 100 := by rcases h with rfl | rfl | rfl | rfl | rfl | rfl | rfl <;> (unfold isS; decide)
theorem hou_f0 {t : Int} (h : isHou t) : FR t 0 = t + 1 := by rcases h with rfl | rfl | rfl | rfl | rfl | rfl | rfl <;> decide
theorem hou_2 {t : Int} (h : isHou t) : isS (t + 2) 10 10 := by rcases h with rfl | rfl | rfl | rfl | rfl | rfl | rfl <;> (unfold isS; decide)
theorem hou_f2 {t : Int} (h : isHou t) : FR t 2 = t + 2 := by rcases h with rfl | rfl | rfl | rfl | rfl | rfl | rfl <;> decide
theorem hou_3 {t : Int} (h : isHou t) : isS (t + 3) 10 10 := by rcases h with rfl | rfl | rfl | rfl | rfl | rfl | rfl <;> (unfold isS; decide)
theorem hou_f3 {t : Int} (h : isHou t) : FR t 3 = t + 3 := by rcases h with rfl | rfl | rfl | rfl | rfl | rfl | rfl <;> decide
theorem row_s {t : Int} {n : Nat} (h : isRow t n) : isS t 5 0 := by rcases h with ⟨h | h, rfl⟩ | ⟨h | h, rfl⟩ | ⟨h | h, rfl⟩ <;> subst h <;> (unfold isS; decide)
theorem row_0 {t : Int} {n : Nat} (h : isRow t n) : isS (t + 1) 10 n := by rcases h with ⟨h | h, rfl⟩ | ⟨h | h, rfl⟩ | ⟨h | h, rfl⟩ <;> subst h <;> (unfold isS; decide)
theorem row_f0 {t : Int} {n : Nat} (h : isRow t n) : FR t 0 = t + 1 := by rcases h with ⟨h | h, rfl⟩ | ⟨h | h, rfl⟩ | ⟨h | h, rfl⟩ <;> subst h <;> decide
theorem row_1 {t : Int} {n : Nat} (h : isRow t n) : isS (t + 2) 10 n := by rcases h with ⟨h | h, rfl⟩ | ⟨h | h, rfl⟩ | ⟨h | h, rfl⟩ <;> subst h <;> (unfold isS; decide)
theorem row_f1 {t : Int} {n : Nat} (h : isRow t n) : FR t 1 = t + 2 := by rcases h with ⟨h | h, rfl⟩ | ⟨h | h, rfl⟩ | ⟨h | h, rfl⟩ <;> subst h <;> decide
theorem row_2 {t : Int} {n : Nat} (h : isRow t n) : isS (t + 3) 10 n := by rcases h with ⟨h | h, rfl⟩ | ⟨h | h, rfl⟩ | ⟨h | h, rfl⟩ <;> subst h <;> (unfold isS; decide)
theorem row_f2 {t : Int} {n : Nat} (h : isRow t n) : FR t 2 = t + 3 := by rcases h with ⟨h | h, rfl⟩ | ⟨h | h, rfl⟩ | ⟨h | h, rfl⟩ <;> subst h <;> decide
theorem eve_s {t : Int} (h : isEve t) : isS t 1 0 := by rcases h with rfl | rfl <;> (unfold isS; decide)
theorem eve_f0 {t : Int} (h : isEve t) : FR t 0 = t + 13 := by rcases h with rfl | rfl <;> decide
theorem eve_f1 {t : Int} (h : isEve t) : FR t 1 = t + 1 := by rcases h with rfl | rfl <;> decide
theorem eve_f2 {t : Int} (h : isEve t) : FR t 2 = t + 5 := by rcases h with rfl | rfl <;> decide
theorem eve_f3 {t : Int} (h : isEve t) : FR t 3 = t + 9 := by rcases h with rfl | rfl <;> decide
theorem eve_t {t : Int} (h : isEve t) : isTab (t + 13) := by rcases h with rfl | rfl <;> (unfold isTab; decide)
theorem eve_r1 {t : Int} (h : isEve t) : isRow (t + 1) 5 := by rcases h with rfl | rfl <;> (unfold isRow; decide)
theorem eve_r2 {t : Int} (h : isEve t) : isRow (t + 5) 10 := by rcases h with rfl | rfl <;> (unfold isRow; decide)
theorem eve_r3 {t : Int} (h : isEve t) : isRow (t + 9) 8 := by rcases h with rfl | rfl <;> (unfold isRow; decide)
theorem tap_s {t : Int} (h : isTap t) : isS t 7 0 := by rcases h with rfl | rfl | rfl | rfl | rfl | rfl <;> (unfold isS; decide)
theorem tap_0 {t : Int} (h : isTap t) : isS (t + 1) 13 60 := by rcases h with rfl | rfl | rfl | rfl | rfl | rfl <;> (unfold isS; decide)
theorem tap_f0 {t : Int} (h : isTap t) : FR t 0 = t + 1 := by rcases h with rfl | rfl | rfl | rfl | rfl | rfl <;> decide
theorem hou_at {i : Int} (h0 : 0 ≤ i) (h1 : i < 6) : isHou (72 + 4 * i) := by unfold isHou; omega
theorem tap_at {i : Int} (h0 : 0 ≤ i) (h1 : i < 6) : isTap (96 + 2 * i) := by unfold isTap; omega
theorem i0 : isS 0 8 0 := by unfold isS; decide
theorem i1 : isS 1 12 100 := by unfold isS; decide
theorem i2 : isS 2 14 6 := by unfold isS; decide
theorem i3 : isS 3 4 0 := by unfold isS; decide
theorem i4 : isS 4 0 0 := by unfold isS; decide
theorem i5 : isS 5 10 20 := by unfold isS; decide
theorem i6 : isS 6 15 6 := by unfold isS; decide
theorem i7 : isS 7 2 0 := by unfold isS; decide
theorem i8 : isS 8 10 100 := by unfold isS; decide
theorem i9 : isS 9 10 10 := by unfold isS; decide
theorem i10 : isS 10 10 10 := by unfold isS; decide
theorem i11 : isS 11 1 0 := by unfold isS; decide
theorem i12 : isS 12 5 0 := by unfold isS; decide
theorem i13 : isS 13 10 5 := by unfold isS; decide
theorem i14 : isS 14 10 5 := by unfold isS; decide
theorem i15 : isS 15 10 5 := by unfold isS; decide
theorem i16 : isS 16 5 0 := by unfold isS; decide
theorem i17 : isS 17 10 10 := by unfold isS; decide
theorem i18 : isS 18 10 10 := by unfold isS; decide
theorem i19 : isS 19 10 10 := by unfold isS; decide
theorem i20 : isS 20 5 0 := by unfold isS; decide
theorem i21 : isS 21 10 8 := by unfold isS; decide
theorem i22 : isS 22 10 8 := by unfold isS; decide
theorem i23 : isS 23 10 8 := by unfold isS; decide
theorem i24 : isS 24 6 0 := by unfold isS; decide
theorem i25 : isS 25 10 6 := by unfold isS; decide
theorem i26 : isS 26 10 6 := by unfold isS; decide
theorem i27 : isS 27 10 6 := by unfold isS; decide
theorem i28 : isS 28 10 6 := by unfold isS; decide
theorem i29 : isS 29 11 6 := by unfold isS; decide
theorem i30 : isS 30 11 6 := by unfold isS; decide
theorem i31 : isS 31 10 24 := by unfold isS; decide
theorem i32 : isS 32 10 6 := by unfold isS; decide
theorem i33 : isS 33 10 36 := by unfold isS; decide
theorem i34 : isS 34 10 6 := by unfold isS; decide
theorem i35 : isS 35 1 0 := by unfold isS; decide
theorem i36 : isS 36 5 0 := by unfold isS; decide
theorem i37 : isS 37 10 5 := by unfold isS; decide
theorem i38 : isS 38 10 5 := by unfold isS; decide
theorem i39 : isS 39 10 5 := by unfold isS; decide
theorem i40 : isS 40 5 0 := by unfold isS; decide
theorem i41 : isS 41 10 10 := by unfold isS; decide
theorem i42 : isS 42 10 10 := by unfold isS; decide
theorem i43 : isS 43 10 10 := by unfold isS; decide
theorem i44 : isS 44 5 0 := by unfold isS; decide
theorem i45 : isS 45 10 8 := by unfold isS; decide
theorem i46 : isS 46 10 8 := by unfold isS; decide
theorem i47 : isS 47 10 8 := by unfold isS; decide
theorem i48 : isS 48 6 0 := by unfold isS; decide
theorem i49 : isS 49 10 6 := by unfold isS; decide
theorem i50 : isS 50 10 6 := by unfold isS; decide
theorem i51 : isS 51 10 6 := by unfold isS; decide
theorem i52 : isS 52 10 6 := by unfold isS; decide
theorem i53 : isS 53 11 6 := by unfold isS; decide
theorem i54 : isS 54 11 6 := by unfold isS; decide
theorem i55 : isS 55 10 24 := by unfold isS; decide
theorem i56 : isS 56 10 6 := by unfold isS; decide
theorem i57 : isS 57 10 36 := by unfold isS; decide
theorem i58 : isS 58 10 6 := by unfold isS; decide
theorem i59 : isS 59 6 0 := by unfold isS; decide
theorem i60 : isS 60 10 6 := by unfold isS; decide
theorem i61 : isS 61 10 6 := by unfold isS; decide
theorem i62 : isS 62 10 6 := by unfold isS; decide
theorem i63 : isS 63 10 6 := by unfold isS; decide
theorem i64 : isS 64 11 6 := by unfold isS; decide
theorem i65 : isS 65 11 6 := by unfold isS; decide
theorem i66 : isS 66 10 24 := by unfold isS; decide
theorem i67 : isS 67 10 6 := by unfold isS; decide
theorem i68 : isS 68 10 36 := by unfold isS; decide
theorem i69 : isS 69 10 6 := by unfold isS; decide
theorem i70 : isS 70 3 0 := by unfold isS; decide
theorem i71 : isS 71 10 6 := by unfold isS; decide
theorem i72 : isS 72 2 0 := by unfold isS; decide
theorem i73 : isS 73 10 100 := by unfold isS; decide
theorem i74 : isS 74 10 10 := by unfold isS; decide
theorem i75 : isS 75 10 10 := by unfold isS; decide
theorem i76 : isS 76 2 0 := by unfold isS; decide
theorem i77 : isS 77 10 100 := by unfold isS; decide
theorem i78 : isS 78 10 10 := by unfold isS; decide
theorem i79 : isS 79 10 10 := by unfold isS; decide
theorem i80 : isS 80 2 0 := by unfold isS; decide
theorem i81 : isS 81 10 100 := by unfold isS; decide
theorem i82 : isS 82 10 10 := by unfold isS; decide
theorem i83 : isS 83 10 10 := by unfold isS; decide
theorem i84 : isS 84 2 0 := by unfold isS; decide
theorem i85 : isS 85 10 100 := by unfold isS; decide
theorem i86 : isS 86 10 10 := by unfold isS; decide
theorem i87 : isS 87 10 10 := by unfold isS; decide
theorem i88 : isS 88 2 0 := by unfold isS; decide
theorem i89 : isS 89 10 100 := by unfold isS; decide
theorem i90 : isS 90 10 10 := by unfold isS; decide
theorem i91 : isS 91 10 10 := by unfold isS; decide
theorem i92 : isS 92 2 0 := by unfold isS; decide
theorem i93 : isS 93 10 100 := by unfold isS; decide
theorem i94 : isS 94 10 10 := by unfold isS; decide
theorem i95 : isS 95 10 10 := by unfold isS; decide
theorem i96 : isS 96 7 0 := by unfold isS; decide
theorem i97 : isS 97 13 60 := by unfold isS; decide
theorem i98 : isS 98 7 0 := by unfold isS; decide
theorem i99 : isS 99 13 60 := by unfold isS; decide
theorem i100 : isS 100 7 0 := by unfold isS; decide
theorem i101 : isS 101 13 60 := by unfold isS; decide
theorem i102 : isS 102 7 0 := by unfold isS; decide
theorem i103 : isS 103 13 60 := by unfold isS; decide
theorem i104 : isS 104 7 0 := by unfold isS; decide
theorem i105 : isS 105 13 60 := by unfold isS; decide
theorem i106 : isS 106 7 0 := by unfold isS; decide
theorem i107 : isS 107 13 60 := by unfold isS; decide
theorem i108 : isS 108 9 0 := by unfold isS; decide
theorem i109 : isS 109 10 6 := by unfold isS; decide
theorem i110 : isS 110 10 6 := by unfold isS; decide
theorem i111 : isS 111 10 6 := by unfold isS; decide
theorem i112 : isS 112 10 6 := by unfold isS; decide
theorem i113 : isS 113 10 24 := by unfold isS; decide
theorem i114 : isS 114 10 100 := by unfold isS; decide
theorem i115 : isS 115 10 6 := by unfold isS; decide
theorem i116 : isS 116 10 60 := by unfold isS; decide
theorem i117 : isS 117 10 60 := by unfold isS; decide
theorem i118 : isS 118 10 60 := by unfold isS; decide
theorem i119 : isS 119 10 60 := by unfold isS; decide
theorem i120 : isS 120 10 600 := by unfold isS; decide
theorem i121 : isS 121 10 101 := by unfold isS; decide
theorem i122 : isS 122 10 20 := by unfold isS; decide
theorem i123 : isS 123 11 100 := by unfold isS; decide
theorem i124 : isS 124 10 36 := by unfold isS; decide
theorem i125 : isS 125 10 6 := by unfold isS; decide
theorem i126 : isS 126 10 6 := by unfold isS; decide
theorem i127 : isS 127 10 6 := by unfold isS; decide
theorem i128 : isS 128 10 5 := by unfold isS; decide
theorem i129 : isS 129 10 5 := by unfold isS; decide
theorem i130 : isS 130 11 5 := by unfold isS; decide
theorem i131 : isS 131 10 6 := by unfold isS; decide
theorem i132 : isS 132 10 10 := by unfold isS; decide
theorem i133 : isS 133 10 10 := by unfold isS; decide
theorem i134 : isS 134 10 8 := by unfold isS; decide
theorem i135 : isS 135 10 8 := by unfold isS; decide
theorem i136 : isS 136 10 6 := by unfold isS; decide
theorem i137 : isS 137 10 6 := by unfold isS; decide
theorem i138 : isS 138 10 6 := by unfold isS; decide
theorem i139 : isS 139 10 6 := by unfold isS; decide
theorem i140 : isS 140 10 24 := by unfold isS; decide
theorem i141 : isS 141 10 5 := by unfold isS; decide
theorem i142 : isS 142 10 5 := by unfold isS; decide
theorem i143 : isS 143 10 10 := by unfold isS; decide
theorem i144 : isS 144 10 10 := by unfold isS; decide
theorem i145 : isS 145 10 8 := by unfold isS; decide
theorem i146 : isS 146 10 8 := by unfold isS; decide
theorem i147 : isS 147 11 5 := by unfold isS; decide
theorem i148 : isS 148 10 20 := by unfold isS; decide
theorem i149 : isS 149 10 6 := by unfold isS; decide
theorem i150 : isS 150 10 6 := by unfold isS; decide
theorem i151 : isS 151 13 360 := by unfold isS; decide
theorem i152 : isS 152 13 60 := by unfold isS; decide
theorem f0_0 : FR 0 0 = 11 := by decide
theorem f0_1 : FR 0 1 = 35 := by decide
theorem f0_3 : FR 0 3 = 59 := by decide
theorem f0_4 : FR 0 4 = 1 := by decide
theorem f0_6 : FR 0 6 = 2 := by decide
theorem f0_8 : FR 0 8 = 3 := by decide
theorem f0_9 : FR 0 9 = 70 := by decide
theorem f0_10 : FR 0 10 = 4 := by decide
theorem f0_11 : FR 0 11 = 6 := by decide
theorem f4_0 : FR 4 0 = 5 := by decide
theorem f7_0 : FR 7 0 = 8 := by decide
theorem f7_2 : FR 7 2 = 9 := by decide
theorem f7_3 : FR 7 3 = 10 := by decide
theorem f11_0 : FR 11 0 = 24 := by decide
theorem f11_1 : FR 11 1 = 12 := by decide
theorem f11_2 : FR 11 2 = 16 := by decide
theorem f11_3 : FR 11 3 = 20 := by decide
theorem f12_0 : FR 12 0 = 13 := by decide
theorem f12_1 : FR 12 1 = 14 := by decide
theorem f12_2 : FR 12 2 = 15 := by decide
theorem f16_0 : FR 16 0 = 17 := by decide
theorem f16_1 : FR 16 1 = 18 := by decide
theorem f16_2 : FR 16 2 = 19 := by decide
theorem f20_0 : FR 20 0 = 21 := by decide
theorem f20_1 : FR 20 1 = 22 := by decide
theorem f20_2 : FR 20 2 = 23 := by decide
theorem f24_0 : FR 24 0 = 25 := by decide
theorem f24_1 : FR 24 1 = 26 := by decide
theorem f24_2 : FR 24 2 = 27 := by decide
theorem f24_3 : FR 24 3 = 28 := by decide
theorem f24_4 : FR 24 4 = 29 := by decide
theorem f24_5 : FR 24 5 = 30 := by decide
theorem f24_6 : FR 24 6 = 31 := by decide
theorem f24_7 : FR 24 7 = 32 := by decide
theorem f24_8 : FR 24 8 = 33 := by decide
theorem f24_9 : FR 24 9 = 34 := by decide
theorem f35_0 : FR 35 0 = 48 := by decide
theorem f35_1 : FR 35 1 = 36 := by decide
theorem f35_2 : FR 35 2 = 40 := by decide
theorem f35_3 : FR 35 3 = 44 := by decide
theorem f36_0 : FR 36 0 = 37 := by decide
theorem f36_1 : FR 36 1 = 38 := by decide
theorem f36_2 : FR 36 2 = 39 := by decide
theorem f40_0 : FR 40 0 = 41 := by decide
theorem f40_1 : FR 40 1 = 42 := by decide
theorem f40_2 : FR 40 2 = 43 := by decide
theorem f44_0 : FR 44 0 = 45 := by decide
theorem f44_1 : FR 44 1 = 46 := by decide
theorem f44_2 : FR 44 2 = 47 := by decide
theorem f48_0 : FR 48 0 = 49 := by decide
theorem f48_1 : FR 48 1 = 50 := by decide
theorem f48_2 : FR 48 2 = 51 := by decide
theorem f48_3 : FR 48 3 = 52 := by decide
theorem f48_4 : FR 48 4 = 53 := by decide
theorem f48_5 : FR 48 5 = 54 := by decide
theorem f48_6 : FR 48 6 = 55 := by decide
theorem f48_7 : FR 48 7 = 56 := by decide
theorem f48_8 : FR 48 8 = 57 := by decide
theorem f48_9 : FR 48 9 = 58 := by decide
theorem f59_0 : FR 59 0 = 60 := by decide
theorem f59_1 : FR 59 1 = 61 := by decide
theorem f59_2 : FR 59 2 = 62 := by decide
theorem f59_3 : FR 59 3 = 63 := by decide
theorem f59_4 : FR 59 4 = 64 := by decide
theorem f59_5 : FR 59 5 = 65 := by decide
theorem f59_6 : FR 59 6 = 66 := by decide
theorem f59_7 : FR 59 7 = 67 := by decide
theorem f59_8 : FR 59 8 = 68 := by decide
theorem f59_9 : FR 59 9 = 69 := by decide
theorem f70_0 : FR 70 0 = 59 := by decide
theorem f70_1 : FR 70 1 = 71 := by decide
theorem f72_0 : FR 72 0 = 73 := by decide
theorem f72_2 : FR 72 2 = 74 := by decide
theorem f72_3 : FR 72 3 = 75 := by decide
theorem f76_0 : FR 76 0 = 77 := by decide
theorem f76_2 : FR 76 2 = 78 := by decide
theorem f76_3 : FR 76 3 = 79 := by decide
theorem f80_0 : FR 80 0 = 81 := by decide
theorem f80_2 : FR 80 2 = 82 := by decide
theorem f80_3 : FR 80 3 = 83 := by decide
theorem f84_0 : FR 84 0 = 85 := by decide
theorem f84_2 : FR 84 2 = 86 := by decide
theorem f84_3 : FR 84 3 = 87 := by decide
theorem f88_0 : FR 88 0 = 89 := by decide
theorem f88_2 : FR 88 2 = 90 := by decide
theorem f88_3 : FR 88 3 = 91 := by decide
theorem f92_0 : FR 92 0 = 93 := by decide
theorem f92_2 : FR 92 2 = 94 := by decide
theorem f92_3 : FR 92 3 = 95 := by decide
theorem f96_0 : FR 96 0 = 97 := by decide
theorem f98_0 : FR 98 0 = 99 := by decide
theorem f100_0 : FR 100 0 = 101 := by decide
theorem f102_0 : FR 102 0 = 103 := by decide
theorem f104_0 : FR 104 0 = 105 := by decide
theorem f106_0 : FR 106 0 = 107 := by decide
theorem f108_5 : FR 108 5 = 109 := by decide
theorem f108_6 : FR 108 6 = 110 := by decide
theorem f108_7 : FR 108 7 = 111 := by decide
theorem f108_8 : FR 108 8 = 112 := by decide
theorem f108_9 : FR 108 9 = 113 := by decide
theorem f108_15 : FR 108 15 = 114 := by decide
theorem f108_16 : FR 108 16 = 115 := by decide
theorem f108_17 : FR 108 17 = 116 := by decide
theorem f108_18 : FR 108 18 = 117 := by decide
theorem f108_19 : FR 108 19 = 118 := by decide
theorem f108_20 : FR 108 20 = 119 := by decide
theorem f108_21 : FR 108 21 = 120 := by decide
theorem f108_22 : FR 108 22 = 121 := by decide
theorem f108_26 : FR 108 26 = 122 := by decide
theorem f108_27 : FR 108 27 = 123 := by decide
theorem f108_28 : FR 108 28 = 124 := by decide
theorem f108_34 : FR 108 34 = 125 := by decide
theorem f108_35 : FR 108 35 = 126 := by decide
theorem f108_36 : FR 108 36 = 127 := by decide
theorem f108_40 : FR 108 40 = 128 := by decide
theorem f108_41 : FR 108 41 = 129 := by decide
theorem f108_42 : FR 108 42 = 130 := by decide
theorem f108_43 : FR 108 43 = 131 := by decide
theorem f108_46 : FR 108 46 = 132 := by decide
theorem f108_47 : FR 108 47 = 133 := by decide
theorem f108_48 : FR 108 48 = 134 := by decide
theorem f108_49 : FR 108 49 = 135 := by decide
theorem f108_60 : FR 108 60 = 136 := by decide
theorem f108_61 : FR 108 61 = 137 := by decide
theorem f108_62 : FR 108 62 = 138 := by decide
theorem f108_63 : FR 108 63 = 139 := by decide
theorem f108_64 : FR 108 64 = 140 := by decide
theorem f108_65 : FR 108 65 = 141 := by decide
theorem f108_66 : FR 108 66 = 142 := by decide
theorem f108_67 : FR 108 67 = 143 := by decide
theorem f108_68 : FR 108 68 = 144 := by decide
theorem f108_69 : FR 108 69 = 145 := by decide
theorem f108_70 : FR 108 70 = 146 := by decide
theorem f108_71 : FR 108 71 = 147 := by decide
theorem f108_73 : FR 108 73 = 148 := by decide
theorem f108_74 : FR 108 74 = 149 := by decide
theorem f108_75 : FR 108 75 = 150 := by decide
theorem f108_76 : FR 108 76 = 151 := by decide
theorem f108_77 : FR 108 77 = 152 := by decide
theorem f2 {i : Int} (h0 : 0 ≤ i) (h1 : i < 6) : FR 2 i = 72 + 4 * i := by simp only [FR, i2.2.2]; rw [if_pos ⟨h0, h1⟩]
theorem f6 {i : Int} (h0 : 0 ≤ i) (h1 : i < 6) : FR 6 i = 96 + 2 * i := by simp only [FR, i6.2.2]; rw [if_pos ⟨h0, h1⟩]
theorem Q_getfi {K : SK} {d : Nat} {y : mth} {kc ks pc pc' : Nat} {L st : List av} {c : ct} {Q : hp → av → Prop} {x J : Int} {idx ci j len : Nat} (hJ : (j : Int) = J) (hd : decode y.2.1 pc = .ok (.getfield idx, 3)) (hw : kF y.1.cls idx ci j) (hc : isS x ci len) (h10 : ci < 10) (hj : j < nflds ci) (ht : isRefT (fldT ci j) = false) (hn : pc + 3 = pc') (k : WP K d y kc ks pc' L ((0, c x J) :: st) (wG (c)) Q) : WP K d y kc ks pc L ((2, x) :: st) (wG (c)) Q := by
  subst hJ
  refine R_getfi hd hw (hc.C c) h10 hj ht hn ?_
  rw [show (wG c).2.2 x j = c x j from mrg_n hc (by simp [finR, h10, ht]) c]
  exact k
theorem Q_getfr {K : SK} {d : Nat} {y : mth} {kc ks pc pc' : Nat} {L st : List av} {c : ct} {Q : hp → av → Prop} {x v J : Int} {idx ci j len : Nat} (hJ : (j : Int) = J) (hd : decode y.2.1 pc = .ok (.getfield idx, 3)) (hw : kF y.1.cls idx ci j) (hc : isS x ci len) (h10 : ci < 10) (hj : j < nflds ci) (ht : isRefT (fldT ci j) = true) (hf : (fldN ci j).2.2.2 = true) (hv : FR x J = v) (hn : pc + 3 = pc') (k : WP K d y kc ks pc' L ((2, v) :: st) (wG (c)) Q) : WP K d y kc ks pc L ((2, x) :: st) (wG (c)) Q := by
  subst hJ
  refine R_getfr hd hw (hc.C c) h10 hj ht hn ?_
  rw [show (wG c).2.2 x j = v from (mrg_f hc (by simp [finR, h10, ht, hf]) c).trans hv]
  exact k
theorem Q_getfq {K : SK} {d : Nat} {y : mth} {kc ks pc pc' : Nat} {L st : List av} {c : ct} {Q : hp → av → Prop} {x J : Int} {idx ci j len : Nat} (hJ : (j : Int) = J) (hd : decode y.2.1 pc = .ok (.getfield idx, 3)) (hw : kF y.1.cls idx ci j) (hc : isS x ci len) (h10 : ci < 10) (hj : j < nflds ci) (ht : isRefT (fldT ci j) = true) (hf : (fldN ci j).2.2.2 = false) (hn : pc + 3 = pc') (k : WP K d y kc ks pc' L ((2, c x J) :: st) (wG (c)) Q) : WP K d y kc ks pc L ((2, x) :: st) (wG (c)) Q := by
  subst hJ
  refine R_getfr hd hw (hc.C c) h10 hj ht hn ?_
  rw [show (wG c).2.2 x j = c x j from mrg_n hc (by simp [finR, h10, hf]) c]
  exact k
theorem Q_putfi {K : SK} {d : Nat} {y : mth} {kc ks pc pc' : Nat} {L st : List av} {c : ct} {Q : hp → av → Prop} {x v J : Int} {idx ci j len : Nat} (hJ : (j : Int) = J) (hd : decode y.2.1 pc = .ok (.putfield idx, 3)) (hw : kF y.1.cls idx ci j) (hc : isS x ci len) (h10 : ci < 10) (hj : j < nflds ci) (hf : (fldN ci j).2.2.2 = false) (ht : fldT ci j = .int) (hn : pc + 3 = pc') (k : ∀ c1, c1 = up2 c x J v → WP K d y kc ks pc' L (st) (wG (c1)) Q) : WP K d y kc ks pc L ((0, v) :: (2, x) :: st) (wG (c)) Q := by
  subst hJ
  refine R_putfi hd hw (hc.C c) h10 hj hf ht hn ?_
  rw [show hup (wG c) x j v = wG (up2 c x j v) from congrArg (fun z => ((153, SH, z) : hp)) (mrg_up hc (by simp [finR, h10, hf]) c)]
  exact k _ rfl
theorem Q_putfz {K : SK} {d : Nat} {y : mth} {kc ks pc pc' : Nat} {L st : List av} {c : ct} {Q : hp → av → Prop} {x v J : Int} {idx ci j len : Nat} (hJ : (j : Int) = J) (hd : decode y.2.1 pc = .ok (.putfield idx, 3)) (hw : kF y.1.cls idx ci j) (hc : isS x ci len) (h10 : ci < 10) (hj : j < nflds ci) (hf : (fldN ci j).2.2.2 = false) (ht : fldT ci j = .boolean) (hz : v = 0 ∨ v = 1) (hn : pc + 3 = pc') (k : ∀ c1, c1 = up2 c x J v → WP K d y kc ks pc' L (st) (wG (c1)) Q) : WP K d y kc ks pc L ((0, v) :: (2, x) :: st) (wG (c)) Q := by
  subst hJ
  refine R_putfz hd hw (hc.C c) h10 hj hf ht hz hn ?_
  rw [show hup (wG c) x j v = wG (up2 c x j v) from congrArg (fun z => ((153, SH, z) : hp)) (mrg_up hc (by simp [finR, h10, hf]) c)]
  exact k _ rfl
theorem Q_putfr {K : SK} {d : Nat} {y : mth} {kc ks pc pc' : Nat} {L st : List av} {c : ct} {Q : hp → av → Prop} {x v J : Int} {idx ci j len : Nat} (hJ : (j : Int) = J) (hd : decode y.2.1 pc = .ok (.putfield idx, 3)) (hw : kF y.1.cls idx ci j) (hc : isS x ci len) (h10 : ci < 10) (hj : j < nflds ci) (hf : (fldN ci j).2.2.2 = false) (ht : isRefT (fldT ci j) = true) (hv0 : v < 153) (hn : pc + 3 = pc') (k : ∀ c1, c1 = up2 c x J v → WP K d y kc ks pc' L (st) (wG (c1)) Q) : WP K d y kc ks pc L ((2, v) :: (2, x) :: st) (wG (c)) Q := by
  subst hJ
  refine R_putfr hd hw (hc.C c) h10 hj hf ht hv0 hn ?_
  rw [show hup (wG c) x j v = wG (up2 c x j v) from congrArg (fun z => ((153, SH, z) : hp)) (mrg_up hc (by simp [finR, h10, hf]) c)]
  exact k _ rfl
theorem Q_getfNi {K : SK} {d : Nat} {y : mth} {kc ks pc pc' : Nat} {L st : List av} {c : ct} {Q : hp → av → Prop} {x J : Int} {idx ci j len : Nat} (hJ : (j : Int) = J) (hd : decode y.2.1 pc = .ok (.getfield idx, 3)) (hw : kFN y.1.cls idx ci j) (hc : isS x ci len) (h10 : ci < 10) (hj : j < nflds ci) (ht : isRefT (fldT ci j) = false) (hn : pc + 3 = pc') (k : WP K d y kc ks pc' L ((0, c x J) :: st) (wG (c)) Q) : WP K d y kc ks pc L ((2, x) :: st) (wG (c)) Q := by
  subst hJ
  refine R_getfNi hd hw (hc.C c) h10 hj ht hn ?_
  rw [show (wG c).2.2 x j = c x j from mrg_n hc (by simp [finR, h10, ht]) c]
  exact k
theorem Q_getfNr {K : SK} {d : Nat} {y : mth} {kc ks pc pc' : Nat} {L st : List av} {c : ct} {Q : hp → av → Prop} {x v J : Int} {idx ci j len : Nat} (hJ : (j : Int) = J) (hd : decode y.2.1 pc = .ok (.getfield idx, 3)) (hw : kFN y.1.cls idx ci j) (hc : isS x ci len) (h10 : ci < 10) (hj : j < nflds ci) (ht : isRefT (fldT ci j) = true) (hf : (fldN ci j).2.2.2 = true) (hv : FR x J = v) (hn : pc + 3 = pc') (k : WP K d y kc ks pc' L ((2, v) :: st) (wG (c)) Q) : WP K d y kc ks pc L ((2, x) :: st) (wG (c)) Q := by
  subst hJ
  refine R_getfNr hd hw (hc.C c) h10 hj ht hn ?_
  rw [show (wG c).2.2 x j = v from (mrg_f hc (by simp [finR, h10, ht, hf]) c).trans hv]
  exact k
theorem Q_getfNq {K : SK} {d : Nat} {y : mth} {kc ks pc pc' : Nat} {L st : List av} {c : ct} {Q : hp → av → Prop} {x J : Int} {idx ci j len : Nat} (hJ : (j : Int) = J) (hd : decode y.2.1 pc = .ok (.getfield idx, 3)) (hw : kFN y.1.cls idx ci j) (hc : isS x ci len) (h10 : ci < 10) (hj : j < nflds ci) (ht : isRefT (fldT ci j) = true) (hf : (fldN ci j).2.2.2 = false) (hn : pc + 3 = pc') (k : WP K d y kc ks pc' L ((2, c x J) :: st) (wG (c)) Q) : WP K d y kc ks pc L ((2, x) :: st) (wG (c)) Q := by
  subst hJ
  refine R_getfNr hd hw (hc.C c) h10 hj ht hn ?_
  rw [show (wG c).2.2 x j = c x j from mrg_n hc (by simp [finR, h10, hf]) c]
  exact k
theorem Q_putfNi {K : SK} {d : Nat} {y : mth} {kc ks pc pc' : Nat} {L st : List av} {c : ct} {Q : hp → av → Prop} {x v J : Int} {idx ci j len : Nat} (hJ : (j : Int) = J) (hd : decode y.2.1 pc = .ok (.putfield idx, 3)) (hw : kFN y.1.cls idx ci j) (hc : isS x ci len) (h10 : ci < 10) (hj : j < nflds ci) (hf : (fldN ci j).2.2.2 = false) (ht : fldT ci j = .int) (hn : pc + 3 = pc') (k : ∀ c1, c1 = up2 c x J v → WP K d y kc ks pc' L (st) (wG (c1)) Q) : WP K d y kc ks pc L ((0, v) :: (2, x) :: st) (wG (c)) Q := by
  subst hJ
  refine R_putfNi hd hw (hc.C c) h10 hj hf ht hn ?_
  rw [show hup (wG c) x j v = wG (up2 c x j v) from congrArg (fun z => ((153, SH, z) : hp)) (mrg_up hc (by simp [finR, h10, hf]) c)]
  exact k _ rfl
theorem Q_putfNz {K : SK} {d : Nat} {y : mth} {kc ks pc pc' : Nat} {L st : List av} {c : ct} {Q : hp → av → Prop} {x v J : Int} {idx ci j len : Nat} (hJ : (j : Int) = J) (hd : decode y.2.1 pc = .ok (.putfield idx, 3)) (hw : kFN y.1.cls idx ci j) (hc : isS x ci len) (h10 : ci < 10) (hj : j < nflds ci) (hf : (fldN ci j).2.2.2 = false) (ht : fldT ci j = .boolean) (hz : v = 0 ∨ v = 1) (hn : pc + 3 = pc') (k : ∀ c1, c1 = up2 c x J v → WP K d y kc ks pc' L (st) (wG (c1)) Q) : WP K d y kc ks pc L ((0, v) :: (2, x) :: st) (wG (c)) Q := by
  subst hJ
  refine R_putfNz hd hw (hc.C c) h10 hj hf ht hz hn ?_
  rw [show hup (wG c) x j v = wG (up2 c x j v) from congrArg (fun z => ((153, SH, z) : hp)) (mrg_up hc (by simp [finR, h10, hf]) c)]
  exact k _ rfl
theorem Q_putfNr {K : SK} {d : Nat} {y : mth} {kc ks pc pc' : Nat} {L st : List av} {c : ct} {Q : hp → av → Prop} {x v J : Int} {idx ci j len : Nat} (hJ : (j : Int) = J) (hd : decode y.2.1 pc = .ok (.putfield idx, 3)) (hw : kFN y.1.cls idx ci j) (hc : isS x ci len) (h10 : ci < 10) (hj : j < nflds ci) (hf : (fldN ci j).2.2.2 = false) (ht : isRefT (fldT ci j) = true) (hv0 : v < 153) (hn : pc + 3 = pc') (k : ∀ c1, c1 = up2 c x J v → WP K d y kc ks pc' L (st) (wG (c1)) Q) : WP K d y kc ks pc L ((2, v) :: (2, x) :: st) (wG (c)) Q := by
  subst hJ
  refine R_putfNr hd hw (hc.C c) h10 hj hf ht hv0 hn ?_
  rw [show hup (wG c) x j v = wG (up2 c x j v) from congrArg (fun z => ((153, SH, z) : hp)) (mrg_up hc (by simp [finR, h10, hf]) c)]
  exact k _ rfl
theorem Q_iaload {K : SK} {d : Nat} {y : mth} {kc ks pc pc' : Nat} {L st : List av} {c : ct} {Q : hp → av → Prop} {x i N : Int} {len : Nat} (hN : (len : Int) = N) (hd : decode y.2.1 pc = .ok (.iaload, 1)) (hc : isS x 10 len) (h31 : len ≤ 2147483648) (h01 : 0 ≤ i ∧ i < N) (hn : pc + 1 = pc') (k : WP K d y kc ks pc' L ((0, c x i) :: st) (wG (c)) Q) : WP K d y kc ks pc L ((0, i) :: (2, x) :: st) (wG (c)) Q := by
  subst hN
  refine R_iaload hd (hc.C c) h31 h01.1 h01.2 hn ?_
  rw [show (wG c).2.2 x i = c x i from mrg_n hc (fin_arr (by omega) _) c]
  exact k
theorem Q_zaload {K : SK} {d : Nat} {y : mth} {kc ks pc pc' : Nat} {L st : List av} {c : ct} {Q : hp → av → Prop} {x i N : Int} {len : Nat} (hN : (len : Int) = N) (hd : decode y.2.1 pc = .ok (.baload, 1)) (hc : isS x 11 len) (h31 : len ≤ 2147483648) (h01 : 0 ≤ i ∧ i < N) (hn : pc + 1 = pc') (k : WP K d y kc ks pc' L ((0, c x i) :: st) (wG (c)) Q) : WP K d y kc ks pc L ((0, i) :: (2, x) :: st) (wG (c)) Q := by
  subst hN
  refine R_zaload hd (hc.C c) h31 h01.1 h01.2 hn ?_
  rw [show (wG c).2.2 x i = c x i from mrg_n hc (fin_arr (by omega) _) c]
  exact k
theorem Q_baload {K : SK} {d : Nat} {y : mth} {kc ks pc pc' : Nat} {L st : List av} {c : ct} {Q : hp → av → Prop} {x i N : Int} {len : Nat} (hN : (len : Int) = N) (hd : decode y.2.1 pc = .ok (.baload, 1)) (hc : isS x 12 len) (h31 : len ≤ 2147483648) (h01 : 0 ≤ i ∧ i < N) (hn : pc + 1 = pc') (k : WP K d y kc ks pc' L ((0, c x i) :: st) (wG (c)) Q) : WP K d y kc ks pc L ((0, i) :: (2, x) :: st) (wG (c)) Q := by
  subst hN
  refine R_baload hd (hc.C c) h31 h01.1 h01.2 hn ?_
  rw [show (wG c).2.2 x i = c x i from mrg_n hc (fin_arr (by omega) _) c]
  exact k
theorem Q_laload {K : SK} {d : Nat} {y : mth} {kc ks pc pc' : Nat} {L st : List av} {c : ct} {Q : hp → av → Prop} {x i N : Int} {len : Nat} (hN : (len : Int) = N) (hd : decode y.2.1 pc = .ok (.laload, 1)) (hc : isS x 13 len) (h31 : len ≤ 2147483648) (h01 : 0 ≤ i ∧ i < N) (hn : pc + 1 = pc') (k : WP K d y kc ks pc' L ((1, c x i) :: st) (wG (c)) Q) : WP K d y kc ks pc L ((0, i) :: (2, x) :: st) (wG (c)) Q := by
  subst hN
  refine R_laload hd (hc.C c) h31 h01.1 h01.2 hn ?_
  rw [show (wG c).2.2 x i = c x i from mrg_n hc (fin_arr (by omega) _) c]
  exact k
theorem Q_aaload14 {K : SK} {d : Nat} {y : mth} {kc ks pc pc' : Nat} {L st : List av} {c : ct} {Q : hp → av → Prop} {x i v N : Int} {len : Nat} (hN : (len : Int) = N) (hd : decode y.2.1 pc = .ok (.aaload, 1)) (hc : isS x 14 len) (h31 : len ≤ 2147483648) (h01 : 0 ≤ i ∧ i < N) (hv : FR x i = v) (hn : pc + 1 = pc') (k : WP K d y kc ks pc' L ((2, v) :: st) (wG (c)) Q) : WP K d y kc ks pc L ((0, i) :: (2, x) :: st) (wG (c)) Q := by
  subst hN
  refine R_aaload14 hd (hc.C c) h31 h01.1 h01.2 hn ?_
  rw [show (wG c).2.2 x i = v from (mrg_f hc (by simp [finR]) c).trans hv]
  exact k
theorem Q_aaload15 {K : SK} {d : Nat} {y : mth} {kc ks pc pc' : Nat} {L st : List av} {c : ct} {Q : hp → av → Prop} {x i v N : Int} {len : Nat} (hN : (len : Int) = N) (hd : decode y.2.1 pc = .ok (.aaload, 1)) (hc : isS x 15 len) (h31 : len ≤ 2147483648) (h01 : 0 ≤ i ∧ i < N) (hv : FR x i = v) (hn : pc + 1 = pc') (k : WP K d y kc ks pc' L ((2, v) :: st) (wG (c)) Q) : WP K d y kc ks pc L ((0, i) :: (2, x) :: st) (wG (c)) Q := by
  subst hN
  refine R_aaload15 hd (hc.C c) h31 h01.1 h01.2 hn ?_
  rw [show (wG c).2.2 x i = v from (mrg_f hc (by simp [finR]) c).trans hv]
  exact k
theorem Q_iastore {K : SK} {d : Nat} {y : mth} {kc ks pc pc' : Nat} {L st : List av} {c : ct} {Q : hp → av → Prop} {x i v N : Int} {len : Nat} (hN : (len : Int) = N) (hd : decode y.2.1 pc = .ok (.iastore, 1)) (hc : isS x 10 len) (h31 : len ≤ 2147483648) (h01 : 0 ≤ i ∧ i < N) (hn : pc + 1 = pc') (k : ∀ c1, c1 = up2 c x i v → WP K d y kc ks pc' L (st) (wG (c1)) Q) : WP K d y kc ks pc L ((0, v) :: (0, i) :: (2, x) :: st) (wG (c)) Q := by
  subst hN
  refine R_iastore hd (hc.C c) h31 h01.1 h01.2 hn ?_
  rw [show hup (wG c) x i v = wG (up2 c x i v) from congrArg (fun z => ((153, SH, z) : hp)) (mrg_up hc (fin_arr (by omega) _) c)]
  exact k _ rfl
theorem Q_zastore {K : SK} {d : Nat} {y : mth} {kc ks pc pc' : Nat} {L st : List av} {c : ct} {Q : hp → av → Prop} {x i v N : Int} {len : Nat} (hN : (len : Int) = N) (hd : decode y.2.1 pc = .ok (.bastore, 1)) (hc : isS x 11 len) (h31 : len ≤ 2147483648) (h01 : 0 ≤ i ∧ i < N) (hz : v = 0 ∨ v = 1) (hn : pc + 1 = pc') (k : ∀ c1, c1 = up2 c x i v → WP K d y kc ks pc' L (st) (wG (c1)) Q) : WP K d y kc ks pc L ((0, v) :: (0, i) :: (2, x) :: st) (wG (c)) Q := by
  subst hN
  refine R_zastore hd (hc.C c) h31 h01.1 h01.2 hz hn ?_
  rw [show hup (wG c) x i v = wG (up2 c x i v) from congrArg (fun z => ((153, SH, z) : hp)) (mrg_up hc (fin_arr (by omega) _) c)]
  exact k _ rfl
theorem Q_bastore {K : SK} {d : Nat} {y : mth} {kc ks pc pc' : Nat} {L st : List av} {c : ct} {Q : hp → av → Prop} {x i v N : Int} {len : Nat} (hN : (len : Int) = N) (hd : decode y.2.1 pc = .ok (.bastore, 1)) (hc : isS x 12 len) (h31 : len ≤ 2147483648) (h01 : 0 ≤ i ∧ i < N) (hz : -128 ≤ v ∧ v ≤ 127) (hn : pc + 1 = pc') (k : ∀ c1, c1 = up2 c x i v → WP K d y kc ks pc' L (st) (wG (c1)) Q) : WP K d y kc ks pc L ((0, v) :: (0, i) :: (2, x) :: st) (wG (c)) Q := by
  subst hN
  refine R_bastore hd (hc.C c) h31 h01.1 h01.2 hz hn ?_
  rw [show hup (wG c) x i v = wG (up2 c x i v) from congrArg (fun z => ((153, SH, z) : hp)) (mrg_up hc (fin_arr (by omega) _) c)]
  exact k _ rfl
theorem Q_lastore {K : SK} {d : Nat} {y : mth} {kc ks pc pc' : Nat} {L st : List av} {c : ct} {Q : hp → av → Prop} {x i v N : Int} {len : Nat} (hN : (len : Int) = N) (hd : decode y.2.1 pc = .ok (.lastore, 1)) (hc : isS x 13 len) (h31 : len ≤ 2147483648) (h01 : 0 ≤ i ∧ i < N) (hn : pc + 1 = pc') (k : ∀ c1, c1 = up2 c x i v → WP K d y kc ks pc' L (st) (wG (c1)) Q) : WP K d y kc ks pc L ((1, v) :: (0, i) :: (2, x) :: st) (wG (c)) Q := by
  subst hN
  refine R_lastore hd (hc.C c) h31 h01.1 h01.2 hn ?_
  rw [show hup (wG c) x i v = wG (up2 c x i v) from congrArg (fun z => ((153, SH, z) : hp)) (mrg_up hc (fin_arr (by omega) _) c)]
  exact k _ rfl
theorem Q_cpyi {K : SK} {d : Nat} {y : mth} {kc ks pc pc' : Nat} {L st : List av} {c : ct} {Q : hp → av → Prop} {x0 x1 sp dp n : Int} {len0 len1 idx : Nat} (hd : decode y.2.1 pc = .ok (.invokestatic idx, 3)) (hk : kCp y.1.cls idx) (hd1 : 1 ≤ d) (hst : (st.map avc).sum ≤ 8) (hc0 : isS x0 10 len0) (hc1 : isS x1 10 len1) (hl0 : len0 ≤ 65536) (hl1 : len1 ≤ 65536) (hb : (0 ≤ sp ∧ 0 ≤ dp ∧ 0 ≤ n) ∧ sp + n ≤ len0 ∧ dp + n ≤ len1) (hn : pc + 3 = pc') (k : ∀ c1, c1 = upRow c x1 (cpyI (c x0) (c x1) sp dp n) → WP K d y kc ks pc' L (st) (wG (c1)) Q) : WP K d y kc ks pc L ((0, n) :: (0, dp) :: (2, x1) :: (0, sp) :: (2, x0) :: st) (wG (c)) Q := by
  refine R_cpyi hd hk hd1 hst (hc0.C c) (hc1.C c) hl0 hl1 hb.1.1 hb.1.2.1 hb.1.2.2 hb.2.1 hb.2.2 hn ?_
  have e0 : ∀ j, mrg c x0 j = c x0 j := fun j => mrg_n hc0 (fin_arr (by omega) _) c
  have e1 : ∀ j, mrg c x1 j = c x1 j := fun j => mrg_n hc1 (fin_arr (by omega) _) c
  rw [show hrow (wG c) x1 (cpyI ((wG c).2.2 x0) ((wG c).2.2 x1) sp dp n) = wG (upRow c x1 (cpyI (c x0) (c x1) sp dp n)) from congrArg (fun z => ((153, SH, z) : hp)) (mrg_row hc1 (fun j => fin_arr (by omega) j) _ _ (fun j => by simp only [cpyI, e0, e1]) c)]
  exact k _ rfl
theorem Q_cpyz {K : SK} {d : Nat} {y : mth} {kc ks pc pc' : Nat} {L st : List av} {c : ct} {Q : hp → av → Prop} {x0 x1 sp dp n : Int} {len0 len1 idx : Nat} (hd : decode y.2.1 pc = .ok (.invokestatic idx, 3)) (hk : kCp y.1.cls idx) (hd1 : 1 ≤ d) (hst : (st.map avc).sum ≤ 8) (hc0 : isS x0 11 len0) (hc1 : isS x1 11 len1) (hl0 : len0 ≤ 65536) (hl1 : len1 ≤ 65536) (hb : (0 ≤ sp ∧ 0 ≤ dp ∧ 0 ≤ n) ∧ sp + n ≤ len0 ∧ dp + n ≤ len1) (hz : ∀ j : Int, 0 ≤ j → j < len0 → c x0 j = 0 ∨ c x0 j = 1) (hn : pc + 3 = pc') (k : ∀ c1, c1 = upRow c x1 (cpyI (c x0) (c x1) sp dp n) → WP K d y kc ks pc' L (st) (wG (c1)) Q) : WP K d y kc ks pc L ((0, n) :: (0, dp) :: (2, x1) :: (0, sp) :: (2, x0) :: st) (wG (c)) Q := by
  refine R_cpyz hd hk hd1 hst (hc0.C c) (hc1.C c) hl0 hl1 hb.1.1 hb.1.2.1 hb.1.2.2 hb.2.1 hb.2.2 (fun j h0 h1 => by rw [show (wG c).2.2 x0 j = c x0 j from mrg_n hc0 (fin_arr (by omega) _) c]; exact hz j h0 h1) hn ?_
  have e0 : ∀ j, mrg c x0 j = c x0 j := fun j => mrg_n hc0 (fin_arr (by omega) _) c
  have e1 : ∀ j, mrg c x1 j = c x1 j := fun j => mrg_n hc1 (fin_arr (by omega) _) c
  rw [show hrow (wG c) x1 (cpyI ((wG c).2.2 x0) ((wG c).2.2 x1) sp dp n) = wG (upRow c x1 (cpyI (c x0) (c x1) sp dp n)) from congrArg (fun z => ((153, SH, z) : hp)) (mrg_row hc1 (fun j => fin_arr (by omega) j) _ _ (fun j => by simp only [cpyI, e0, e1]) c)]
  exact k _ rfl
theorem Q_cpyl {K : SK} {d : Nat} {y : mth} {kc ks pc pc' : Nat} {L st : List av} {c : ct} {Q : hp → av → Prop} {x0 x1 sp dp n : Int} {len0 len1 idx : Nat} (hd : decode y.2.1 pc = .ok (.invokestatic idx, 3)) (hk : kCp y.1.cls idx) (hd1 : 1 ≤ d) (hst : (st.map avc).sum ≤ 8) (hc0 : isS x0 13 len0) (hc1 : isS x1 13 len1) (hl0 : len0 ≤ 65536) (hl1 : len1 ≤ 65536) (hb : (0 ≤ sp ∧ 0 ≤ dp ∧ 0 ≤ n) ∧ sp + n ≤ len0 ∧ dp + n ≤ len1) (hn : pc + 3 = pc') (k : ∀ c1, c1 = upRow c x1 (cpyI (c x0) (c x1) sp dp n) → WP K d y kc ks pc' L (st) (wG (c1)) Q) : WP K d y kc ks pc L ((0, n) :: (0, dp) :: (2, x1) :: (0, sp) :: (2, x0) :: st) (wG (c)) Q := by
  refine R_cpyl hd hk hd1 hst (hc0.C c) (hc1.C c) hl0 hl1 hb.1.1 hb.1.2.1 hb.1.2.2 hb.2.1 hb.2.2 hn ?_
  have e0 : ∀ j, mrg c x0 j = c x0 j := fun j => mrg_n hc0 (fin_arr (by omega) _) c
  have e1 : ∀ j, mrg c x1 j = c x1 j := fun j => mrg_n hc1 (fin_arr (by omega) _) c
  rw [show hrow (wG c) x1 (cpyI ((wG c).2.2 x0) ((wG c).2.2 x1) sp dp n) = wG (upRow c x1 (cpyI (c x0) (c x1) sp dp n)) from congrArg (fun z => ((153, SH, z) : hp)) (mrg_row hc1 (fun j => fin_arr (by omega) j) _ _ (fun j => by simp only [cpyI, e0, e1]) c)]
  exact k _ rfl
theorem Q_iret {K : SK} {d : Nat} {y : mth} {pc : Nat} {L : List av} {c : ct} {Q : ct → Int → Prop} {a : Int} (hd : decode y.2.1 pc = .ok (.ireturn, 1)) (hr0 : y.2.2.2.1 = some .int) (k : Q c a) : WP K d y 0 0 pc L [(0, a)] (wG c) (eI Q) := R_iret hd hr0 (Nat.zero_le _) (Nat.zero_le _) ⟨c, rfl, a, rfl, k⟩
theorem Q_zret {K : SK} {d : Nat} {y : mth} {pc : Nat} {L : List av} {c : ct} {Q : ct → Int → Prop} {a : Int} (hd : decode y.2.1 pc = .ok (.ireturn, 1)) (hr0 : y.2.2.2.1 = some .boolean) (hz : a = 0 ∨ a = 1) (k : Q c a) : WP K d y 0 0 pc L [(0, a)] (wG c) (eI Q) := R_zret hd hr0 (nar_bool hz).1 (Nat.zero_le _) (Nat.zero_le _) ⟨c, rfl, a, rfl, k⟩
theorem Q_nret {K : SK} {d : Nat} {y : mth} {pc : Nat} {L : List av} {c : ct} {Q : ct → Int → Prop} {a : Int} {ty : FieldType} (hd : decode y.2.1 pc = .ok (.ireturn, 1)) (hr0 : y.2.2.2.1 = some ty) (hz : narrow ty (.int (Int32.ofInt a)) = .int (Int32.ofInt a)) (k : Q c a) : WP K d y 0 0 pc L [(0, a)] (wG c) (eI Q) := R_zret hd hr0 hz (Nat.zero_le _) (Nat.zero_le _) ⟨c, rfl, a, rfl, k⟩
theorem Q_lret {K : SK} {d : Nat} {y : mth} {pc : Nat} {L : List av} {c : ct} {Q : ct → Int → Prop} {a : Int} (hd : decode y.2.1 pc = .ok (.lreturn, 1)) (hr0 : y.2.2.2.1 = some .long) (k : Q c a) : WP K d y 0 0 pc L [(1, a)] (wG c) (eL2 Q) := R_lret hd hr0 (Nat.zero_le _) (Nat.zero_le _) ⟨c, rfl, a, rfl, k⟩
theorem Q_ret {K : SK} {d : Nat} {y : mth} {pc : Nat} {L : List av} {c : ct} {Q : ct → Prop} (hd : decode y.2.1 pc = .ok (.return_, 1)) (hr0 : y.2.2.2.1 = none) (k : Q c) : WP K d y 0 0 pc L [] (wG c) (eV Q) := R_ret hd hr0 (Nat.zero_le _) (Nat.zero_le _) ⟨c, rfl, rfl, k⟩
theorem Q_aret {K : SK} {d : Nat} {y : mth} {pc : Nat} {L : List av} {c : ct} {Q : ct → Int → Prop} {a : Int} {nm : String} (hd : decode y.2.1 pc = .ok (.areturn, 1)) (hr0 : y.2.2.2.1 = some (.object nm)) (k : Q c a) : WP K d y 0 0 pc L [(3, a)] (wG c) (eA Q) := R_aret3 hd hr0 (Nat.zero_le _) (Nat.zero_le _) ⟨c, rfl, a, rfl, k⟩
theorem Q_roload {K : SK} {d : Nat} {y : mth} {kc ks pc pc' : Nat} {L st : List av} {c : ct} {Q : hp → av → Prop} {i : Nat} {j N : Int} (hN : (roLen K i : Int) = N) (hd : decode y.2.1 pc = .ok (.iaload, 1)) (h6 : i < 6) (h01 : 0 ≤ j ∧ j < N) (hn : pc + 1 = pc') (k : WP K d y kc ks pc' L ((0, roC K i j.toNat) :: st) (wG c) Q) : WP K d y kc ks pc L ((0, j) :: (3, (i : Int)) :: st) (wG c) Q := by
  subst hN
  exact R_roload hd h6 h01.1 h01.2 hn k
theorem lg_sum {ad ros : Nat → Nat} {fm : Value} (hf : fm = .null ∨ ∃ a, fm = .ref a) : ∀ vs : List av, (lg_sl (vs.map (cv ad ros fm))).length = (vs.map avc).sum
  | [] => rfl
  | v :: vs => by
    have ih := lg_sum (ad := ad) (ros := ros) hf vs
    have e1 := cv_cat ad ros hf v
    simp only [lg_sl, List.map_cons, List.flatMap_cons, List.length_append, List.sum_cons, e1] at ih ⊢
    rw [ih, avc]
    split <;> rfl
theorem CM_ofS {K : SK} {d : Nat} {y : mth} {vs : List av} {G : hp} {Q : hp → av → Prop} (hpl : plainName y.1.cls = true) (hsz : (vs.map avc).sum ≤ y.2.2.1) (L : List av) (hL : L0 vs y.2.2.1 = L) (h : WP K d y 0 0 0 L [] G Q) : CM K d y vs G Q :=
  CM_of hpl (by rw [lg_sum (Or.inl rfl)]; exact hsz) L hL h
theorem Q_callVI {K : SK} {d : Nat} {y : mth} {kc ks pc pc' : Nat} {L st : List av} {c : ct} {Q : hp → av → Prop} {y' : mth} {vs : List av} {idx n : Nat} {x : Int} {ci len : Nat} (hd : decode y.2.1 pc = .ok (.invokevirtual idx, 3)) (hk : kV y.1.cls idx y' n) (hc : isS x ci len) (h10 : ci < 10) (hcl : clsN ci = y'.1.cls) (hn : vs.length = n) (hst : (st.map avc).sum ≤ 8) (hz : y'.2.2.2.2 = (0, 0)) (hm : kc ≤ y.2.2.2.2.1) (hm2 : ks ≤ y.2.2.2.2.2) (hpc : pc + 3 = pc') (k : CI K d y' ((2, x) :: vs) c (fun c1 r => WP K (d + 1) y kc ks pc' L ((0, r) :: st) (wG c1) Q)) : WP K (d + 1) y kc ks pc L (vs.reverse ++ (2, x) :: st) (wG c) Q := by
  have z1 : y'.2.2.2.2.1 = 0 := by rw [hz]
  have z2 : y'.2.2.2.2.2 = 0 := by rw [hz]
  refine R_callV (n := n) hd hk (hc.C c) h10 hcl hn hst (by rw [z1]; exact hm) (by rw [z2]; exact hm2) (Or.inl z1) hpc (CM.mono k (fun G v hq => ?_))
  rw [z1, z2]
  obtain ⟨c1, rfl, r, rfl, hq⟩ := hq
  exact hq
theorem Q_callVL {K : SK} {d : Nat} {y : mth} {kc ks pc pc' : Nat} {L st : List av} {c : ct} {Q : hp → av → Prop} {y' : mth} {vs : List av} {idx n : Nat} {x : Int} {ci len : Nat} (hd : decode y.2.1 pc = .ok (.invokevirtual idx, 3)) (hk : kV y.1.cls idx y' n) (hc : isS x ci len) (h10 : ci < 10) (hcl : clsN ci = y'.1.cls) (hn : vs.length = n) (hst : (st.map avc).sum ≤ 8) (hz : y'.2.2.2.2 = (0, 0)) (hm : kc ≤ y.2.2.2.2.1) (hm2 : ks ≤ y.2.2.2.2.2) (hpc : pc + 3 = pc') (k : CL K d y' ((2, x) :: vs) c (fun c1 r => WP K (d + 1) y kc ks pc' L ((1, r) :: st) (wG c1) Q)) : WP K (d + 1) y kc ks pc L (vs.reverse ++ (2, x) :: st) (wG c) Q := by
  have z1 : y'.2.2.2.2.1 = 0 := by rw [hz]
  have z2 : y'.2.2.2.2.2 = 0 := by rw [hz]
  refine R_callV (n := n) hd hk (hc.C c) h10 hcl hn hst (by rw [z1]; exact hm) (by rw [z2]; exact hm2) (Or.inl z1) hpc (CM.mono k (fun G v hq => ?_))
  rw [z1, z2]
  obtain ⟨c1, rfl, r, rfl, hq⟩ := hq
  exact hq
theorem Q_callVV {K : SK} {d : Nat} {y : mth} {kc ks pc pc' : Nat} {L st : List av} {c : ct} {Q : hp → av → Prop} {y' : mth} {vs : List av} {idx n : Nat} {x : Int} {ci len : Nat} (hd : decode y.2.1 pc = .ok (.invokevirtual idx, 3)) (hk : kV y.1.cls idx y' n) (hc : isS x ci len) (h10 : ci < 10) (hcl : clsN ci = y'.1.cls) (hn : vs.length = n) (hst : (st.map avc).sum ≤ 8) (hz : y'.2.2.2.2 = (0, 0)) (hm : kc ≤ y.2.2.2.2.1) (hm2 : ks ≤ y.2.2.2.2.2) (hpc : pc + 3 = pc') (k : CV K d y' ((2, x) :: vs) c (fun c1 => WP K (d + 1) y kc ks pc' L (st) (wG c1) Q)) : WP K (d + 1) y kc ks pc L (vs.reverse ++ (2, x) :: st) (wG c) Q := by
  have z1 : y'.2.2.2.2.1 = 0 := by rw [hz]
  have z2 : y'.2.2.2.2.2 = 0 := by rw [hz]
  refine R_callV (n := n) hd hk (hc.C c) h10 hcl hn hst (by rw [z1]; exact hm) (by rw [z2]; exact hm2) (Or.inl z1) hpc (CM.mono k (fun G v hq => ?_))
  rw [z1, z2]
  obtain ⟨c1, rfl, rfl, hq⟩ := hq
  exact hq
theorem Q_callVA {K : SK} {d : Nat} {y : mth} {kc ks pc pc' : Nat} {L st : List av} {c : ct} {Q : hp → av → Prop} {y' : mth} {vs : List av} {idx n : Nat} {x : Int} {ci len : Nat} (hd : decode y.2.1 pc = .ok (.invokevirtual idx, 3)) (hk : kV y.1.cls idx y' n) (hc : isS x ci len) (h10 : ci < 10) (hcl : clsN ci = y'.1.cls) (hn : vs.length = n) (hst : (st.map avc).sum ≤ 8) (hz : y'.2.2.2.2 = (0, 0)) (hm : kc ≤ y.2.2.2.2.1) (hm2 : ks ≤ y.2.2.2.2.2) (hpc : pc + 3 = pc') (k : CA K d y' ((2, x) :: vs) c (fun c1 r => WP K (d + 1) y kc ks pc' L ((3, r) :: st) (wG c1) Q)) : WP K (d + 1) y kc ks pc L (vs.reverse ++ (2, x) :: st) (wG c) Q := by
  have z1 : y'.2.2.2.2.1 = 0 := by rw [hz]
  have z2 : y'.2.2.2.2.2 = 0 := by rw [hz]
  refine R_callV (n := n) hd hk (hc.C c) h10 hcl hn hst (by rw [z1]; exact hm) (by rw [z2]; exact hm2) (Or.inl z1) hpc (CM.mono k (fun G v hq => ?_))
  rw [z1, z2]
  obtain ⟨c1, rfl, r, rfl, hq⟩ := hq
  exact hq
theorem Q_callSI {K : SK} {d : Nat} {y : mth} {kc ks pc pc' : Nat} {L st : List av} {c : ct} {Q : hp → av → Prop} {y' : mth} {vs : List av} {idx n : Nat} (hd : decode y.2.1 pc = .ok (.invokestatic idx, 3)) (hk : kS y.1.cls idx y' n)  (hn : vs.length = n) (hst : (st.map avc).sum ≤ 8) (hz : y'.2.2.2.2 = (0, 0)) (hm : kc ≤ y.2.2.2.2.1) (hm2 : ks ≤ y.2.2.2.2.2) (hpc : pc + 3 = pc') (k : CI K d y' vs c (fun c1 r => WP K (d + 1) y kc ks pc' L ((0, r) :: st) (wG c1) Q)) : WP K (d + 1) y kc ks pc L (vs.reverse ++ st) (wG c) Q := by
  have z1 : y'.2.2.2.2.1 = 0 := by rw [hz]
  have z2 : y'.2.2.2.2.2 = 0 := by rw [hz]
  refine R_callS (n := n) hd hk hn hst (by rw [z1]; exact hm) (by rw [z2]; exact hm2) (Or.inl z1) hpc (CM.mono k (fun G v hq => ?_))
  rw [z1, z2]
  obtain ⟨c1, rfl, r, rfl, hq⟩ := hq
  exact hq
theorem Q_callSL {K : SK} {d : Nat} {y : mth} {kc ks pc pc' : Nat} {L st : List av} {c : ct} {Q : hp → av → Prop} {y' : mth} {vs : List av} {idx n : Nat} (hd : decode y.2.1 pc = .ok (.invokestatic idx, 3)) (hk : kS y.1.cls idx y' n)  (hn : vs.length = n) (hst : (st.map avc).sum ≤ 8) (hz : y'.2.2.2.2 = (0, 0)) (hm : kc ≤ y.2.2.2.2.1) (hm2 : ks ≤ y.2.2.2.2.2) (hpc : pc + 3 = pc') (k : CL K d y' vs c (fun c1 r => WP K (d + 1) y kc ks pc' L ((1, r) :: st) (wG c1) Q)) : WP K (d + 1) y kc ks pc L (vs.reverse ++ st) (wG c) Q := by
  have z1 : y'.2.2.2.2.1 = 0 := by rw [hz]
  have z2 : y'.2.2.2.2.2 = 0 := by rw [hz]
  refine R_callS (n := n) hd hk hn hst (by rw [z1]; exact hm) (by rw [z2]; exact hm2) (Or.inl z1) hpc (CM.mono k (fun G v hq => ?_))
  rw [z1, z2]
  obtain ⟨c1, rfl, r, rfl, hq⟩ := hq
  exact hq
theorem Q_callSV {K : SK} {d : Nat} {y : mth} {kc ks pc pc' : Nat} {L st : List av} {c : ct} {Q : hp → av → Prop} {y' : mth} {vs : List av} {idx n : Nat} (hd : decode y.2.1 pc = .ok (.invokestatic idx, 3)) (hk : kS y.1.cls idx y' n)  (hn : vs.length = n) (hst : (st.map avc).sum ≤ 8) (hz : y'.2.2.2.2 = (0, 0)) (hm : kc ≤ y.2.2.2.2.1) (hm2 : ks ≤ y.2.2.2.2.2) (hpc : pc + 3 = pc') (k : CV K d y' vs c (fun c1 => WP K (d + 1) y kc ks pc' L (st) (wG c1) Q)) : WP K (d + 1) y kc ks pc L (vs.reverse ++ st) (wG c) Q := by
  have z1 : y'.2.2.2.2.1 = 0 := by rw [hz]
  have z2 : y'.2.2.2.2.2 = 0 := by rw [hz]
  refine R_callS (n := n) hd hk hn hst (by rw [z1]; exact hm) (by rw [z2]; exact hm2) (Or.inl z1) hpc (CM.mono k (fun G v hq => ?_))
  rw [z1, z2]
  obtain ⟨c1, rfl, rfl, hq⟩ := hq
  exact hq
theorem Q_callSA {K : SK} {d : Nat} {y : mth} {kc ks pc pc' : Nat} {L st : List av} {c : ct} {Q : hp → av → Prop} {y' : mth} {vs : List av} {idx n : Nat} (hd : decode y.2.1 pc = .ok (.invokestatic idx, 3)) (hk : kS y.1.cls idx y' n)  (hn : vs.length = n) (hst : (st.map avc).sum ≤ 8) (hz : y'.2.2.2.2 = (0, 0)) (hm : kc ≤ y.2.2.2.2.1) (hm2 : ks ≤ y.2.2.2.2.2) (hpc : pc + 3 = pc') (k : CA K d y' vs c (fun c1 r => WP K (d + 1) y kc ks pc' L ((3, r) :: st) (wG c1) Q)) : WP K (d + 1) y kc ks pc L (vs.reverse ++ st) (wG c) Q := by
  have z1 : y'.2.2.2.2.1 = 0 := by rw [hz]
  have z2 : y'.2.2.2.2.2 = 0 := by rw [hz]
  refine R_callS (n := n) hd hk hn hst (by rw [z1]; exact hm) (by rw [z2]; exact hm2) (Or.inl z1) hpc (CM.mono k (fun G v hq => ?_))
  rw [z1, z2]
  obtain ⟨c1, rfl, r, rfl, hq⟩ := hq
  exact hq
theorem Q_callSNI {K : SK} {d : Nat} {y : mth} {kc ks pc pc' : Nat} {L st : List av} {c : ct} {Q : hp → av → Prop} {y' : mth} {vs : List av} {idx n : Nat} (hd : decode y.2.1 pc = .ok (.invokestatic idx, 3)) (hk : kSN y.1.cls idx y' n)  (hn : vs.length = n) (hst : (st.map avc).sum ≤ 8) (hz : y'.2.2.2.2 = (0, 0)) (hm : kc ≤ y.2.2.2.2.1) (hm2 : ks ≤ y.2.2.2.2.2) (hpc : pc + 3 = pc') (k : CI K d y' vs c (fun c1 r => WP K (d + 1) y kc ks pc' L ((0, r) :: st) (wG c1) Q)) : WP K (d + 1) y kc ks pc L (vs.reverse ++ st) (wG c) Q := by
  have z1 : y'.2.2.2.2.1 = 0 := by rw [hz]
  have z2 : y'.2.2.2.2.2 = 0 := by rw [hz]
  refine R_callSN (n := n) hd hk hn hst (by rw [z1]; exact hm) (by rw [z2]; exact hm2) (Or.inl z1) hpc (CM.mono k (fun G v hq => ?_))
  rw [z1, z2]
  obtain ⟨c1, rfl, r, rfl, hq⟩ := hq
  exact hq
theorem Q_callSNL {K : SK} {d : Nat} {y : mth} {kc ks pc pc' : Nat} {L st : List av} {c : ct} {Q : hp → av → Prop} {y' : mth} {vs : List av} {idx n : Nat} (hd : decode y.2.1 pc = .ok (.invokestatic idx, 3)) (hk : kSN y.1.cls idx y' n)  (hn : vs.length = n) (hst : (st.map avc).sum ≤ 8) (hz : y'.2.2.2.2 = (0, 0)) (hm : kc ≤ y.2.2.2.2.1) (hm2 : ks ≤ y.2.2.2.2.2) (hpc : pc + 3 = pc') (k : CL K d y' vs c (fun c1 r => WP K (d + 1) y kc ks pc' L ((1, r) :: st) (wG c1) Q)) : WP K (d + 1) y kc ks pc L (vs.reverse ++ st) (wG c) Q := by
  have z1 : y'.2.2.2.2.1 = 0 := by rw [hz]
  have z2 : y'.2.2.2.2.2 = 0 := by rw [hz]
  refine R_callSN (n := n) hd hk hn hst (by rw [z1]; exact hm) (by rw [z2]; exact hm2) (Or.inl z1) hpc (CM.mono k (fun G v hq => ?_))
  rw [z1, z2]
  obtain ⟨c1, rfl, r, rfl, hq⟩ := hq
  exact hq
theorem Q_callSNV {K : SK} {d : Nat} {y : mth} {kc ks pc pc' : Nat} {L st : List av} {c : ct} {Q : hp → av → Prop} {y' : mth} {vs : List av} {idx n : Nat} (hd : decode y.2.1 pc = .ok (.invokestatic idx, 3)) (hk : kSN y.1.cls idx y' n)  (hn : vs.length = n) (hst : (st.map avc).sum ≤ 8) (hz : y'.2.2.2.2 = (0, 0)) (hm : kc ≤ y.2.2.2.2.1) (hm2 : ks ≤ y.2.2.2.2.2) (hpc : pc + 3 = pc') (k : CV K d y' vs c (fun c1 => WP K (d + 1) y kc ks pc' L (st) (wG c1) Q)) : WP K (d + 1) y kc ks pc L (vs.reverse ++ st) (wG c) Q := by
  have z1 : y'.2.2.2.2.1 = 0 := by rw [hz]
  have z2 : y'.2.2.2.2.2 = 0 := by rw [hz]
  refine R_callSN (n := n) hd hk hn hst (by rw [z1]; exact hm) (by rw [z2]; exact hm2) (Or.inl z1) hpc (CM.mono k (fun G v hq => ?_))
  rw [z1, z2]
  obtain ⟨c1, rfl, rfl, hq⟩ := hq
  exact hq
theorem Q_callSNA {K : SK} {d : Nat} {y : mth} {kc ks pc pc' : Nat} {L st : List av} {c : ct} {Q : hp → av → Prop} {y' : mth} {vs : List av} {idx n : Nat} (hd : decode y.2.1 pc = .ok (.invokestatic idx, 3)) (hk : kSN y.1.cls idx y' n)  (hn : vs.length = n) (hst : (st.map avc).sum ≤ 8) (hz : y'.2.2.2.2 = (0, 0)) (hm : kc ≤ y.2.2.2.2.1) (hm2 : ks ≤ y.2.2.2.2.2) (hpc : pc + 3 = pc') (k : CA K d y' vs c (fun c1 r => WP K (d + 1) y kc ks pc' L ((3, r) :: st) (wG c1) Q)) : WP K (d + 1) y kc ks pc L (vs.reverse ++ st) (wG c) Q := by
  have z1 : y'.2.2.2.2.1 = 0 := by rw [hz]
  have z2 : y'.2.2.2.2.2 = 0 := by rw [hz]
  refine R_callSN (n := n) hd hk hn hst (by rw [z1]; exact hm) (by rw [z2]; exact hm2) (Or.inl z1) hpc (CM.mono k (fun G v hq => ?_))
  rw [z1, z2]
  obtain ⟨c1, rfl, r, rfl, hq⟩ := hq
  exact hq
theorem Q_callStrI {K : SK} {d : Nat} {y : mth} {kc ks pc pc' : Nat} {L st : List av} {c : ct} {Q : hp → av → Prop} {y' : mth} {vs : List av} {idx n : Nat} {i : Nat} (hd : decode y.2.1 pc = .ok (.invokevirtual idx, 3)) (hk : kV y.1.cls idx y' n) (h4i : i < 4) (hcl : "java/lang/String" = y'.1.cls) (hn : vs.length = n) (hst : (st.map avc).sum ≤ 8) (hz : y'.2.2.2.2 = (0, 0)) (hm : kc ≤ y.2.2.2.2.1) (hm2 : ks ≤ y.2.2.2.2.2) (hpc : pc + 3 = pc') (k : CI K d y' ((3, ((6 + i : Nat) : Int)) :: vs) c (fun c1 r => WP K (d + 1) y kc ks pc' L ((0, r) :: st) (wG c1) Q)) : WP K (d + 1) y kc ks pc L (vs.reverse ++ (3, ((6 + i : Nat) : Int)) :: st) (wG c) Q := by
  have z1 : y'.2.2.2.2.1 = 0 := by rw [hz]
  have z2 : y'.2.2.2.2.2 = 0 := by rw [hz]
  refine R_callStr (n := n) hd hk h4i hcl hn hst (by rw [z1]; exact hm) (by rw [z2]; exact hm2) (Or.inl z1) hpc (CM.mono k (fun G v hq => ?_))
  rw [z1, z2]
  obtain ⟨c1, rfl, r, rfl, hq⟩ := hq
  exact hq
