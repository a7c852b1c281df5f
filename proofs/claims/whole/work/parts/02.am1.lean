/-! THE ABSTRACT WORLD: values (tag, Int): 0 int, 1 long, 2 ref to cell number (below 0: null), 3 read-only object, 4 a carried reference, 8 no answer, 9 unset -/
abbrev av : Type := Nat × Int
abbrev mth : Type := MethodName × ByteArray × Nat × Option FieldType × Nat × Nat
abbrev hp : Type := Nat × (Nat → Nat × Nat) × (Int → Int → Int)
def nflds (ci : Nat) : Nat := match ci with | 0 => 5 | 1 => 4 | 2 => 8 | 3 => 6 | 4 => 5 | 5 => 5 | 6 => 14 | 7 => 3 | 8 => 12 | _ => 78
def fldT (ci : Nat) : Nat → FieldType := match ci with | 0 => tyX0 | 1 => tyX1 | 2 => tyX2 | 3 => tyX3 | 4 => tyX4 | 5 => tyX5 | 6 => tyX6 | 7 => tyX7 | 8 => tyX8 | _ => tyX9
def fldN (ci : Nat) : u_T := match ci with | 0 => TX0 | 1 => TX1 | 2 => TX2 | 3 => TX3 | 4 => TX4 | 5 => TX5 | 6 => TX6 | 7 => TX7 | 8 => TX8 | _ => TX9
def clsN (ci : Nat) : String := match ci with | 0 => RX0 | 1 => RX1 | 2 => RX2 | 3 => RX3 | 4 => RX4 | 5 => RX5 | 6 => RX6 | 7 => RX7 | 8 => RX8 | _ => RX9
theorem vwCl_at : ∀ ci, ci < 10 → vwCl[ci]? = some (clsN ci, fldN ci, nflds ci)
  | 0, _ => rfl | 1, _ => rfl | 2, _ => rfl | 3, _ => rfl | 4, _ => rfl | 5, _ => rfl | 6, _ => rfl | 7, _ => rfl | 8, _ => rfl | 9, _ => rfl
  | k + 10, h => absurd h (by omega)
def isRefT : FieldType → Bool
  | .object _ => true
  | .array _ => true
  | _ => false
/-- a slot that holds a reference: field j of a class below 10, places of the rows of kinds 14, 15 -/
def refSlot (kd j : Nat) : Bool := if kd < 10 then isRefT (fldT kd j) else decide (14 ≤ kd)
def cr (ad : Nat → Nat) (x : Int) : Option Nat := if x < 0 then none else some (ad x.toNat)
def cf (ad : Nat → Nat) (t : FieldType) (x : Int) : Value := if isRefT t then va_rf (cr ad x) else .int (Int32.ofInt x)
def cv (ad ros : Nat → Nat) (fm : Value) (v : av) : Value := match v.1 with
  | 0 => .int (Int32.ofInt v.2)
  | 1 => .long (Int64.ofInt v.2)
  | 2 => va_rf (cr ad v.2)
  | 3 => .ref (ros v.2.toNat)
  | 4 => fm
  | _ => .int 0
def ent (ad : Nat → Nat) (cA : Nat → ClassId) (c : Int → Int → Int) (k : Nat) (s : Nat × Nat) : va_E :=
  if s.1 < 10 then .inr (s.1, (List.range (nflds s.1)).map (fun j => cf ad (fldT s.1 j) (c k j)))
  else if s.1 < 13 then .inl (cA s.1, s.2, .inl (fun j => Int32.ofInt (c k j)))
  else if s.1 = 13 then .inl (cA 13, s.2, .inr (.inl (fun j => Int64.ofInt (c k j))))
  else .inl (cA s.1, s.2, .inr (.inr (.inr (.inr (fun j => cr ad (c k j))))))
def wl (ad : Nat → Nat) (cA : Nat → ClassId) (G : hp) : va_W := (List.range G.1).map (fun k => (ad k, ent ad cA G.2.2 k (G.2.1 k)))
def tyl (cA : Nat → ClassId) : List (ClassId × FieldType) := [(cA 10, .int), (cA 11, .boolean), (cA 12, .byte), (cA 13, .long), (cA 14, .object RX2), (cA 15, .object RX7)]
/-- references in the heap are to cells that are there -/
def HV (G : hp) : Prop := ∀ k j : Nat, k < G.1 → refSlot (G.2.1 k).1 j = true → G.2.2 k j < G.1
def up2 (c : Int → Int → Int) (k j x : Int) : Int → Int → Int := fun a b => if a = k ∧ b = j then x else c a b
theorem wl_len {ad : Nat → Nat} {cA : Nat → ClassId} {G : hp} : (wl ad cA G).length = G.1 := by simp [wl]
theorem wl_get (ad : Nat → Nat) (cA : Nat → ClassId) (G : hp) {k : Nat} (h : k < G.1) : (wl ad cA G)[k]? = some (ad k, ent ad cA G.2.2 k (G.2.1 k)) := by
  simp [wl, List.getElem?_map, List.getElem?_range h]
theorem ent_congr {ad : Nat → Nat} {cA : Nat → ClassId} {c c' : Int → Int → Int} {k : Nat} {s : Nat × Nat} (h : ∀ j : Nat, c' k j = c k j) : ent ad cA c' k s = ent ad cA c k s := by
  simp only [ent, h]
theorem wl_set {ad : Nat → Nat} {cA : Nat → ClassId} {n : Nat} {sh : Nat → Nat × Nat} {c c' : Int → Int → Int} {k : Nat} (hoff : ∀ k' : Nat, k' ≠ k → ∀ j : Nat, c' k' j = c k' j) {e : va_E} (he : e = ent ad cA c' k (sh k)) :
    (wl ad cA (n, sh, c)).set k (ad k, e) = wl ad cA (n, sh, c') := by
  apply List.ext_getElem?
  intro i
  by_cases hi : i < n
  · rw [wl_get ad cA (n, sh, c') hi, List.getElem?_set]
    by_cases hik : k = i
    · subst hik
      simp [wl_len, hi, he]
    · rw [if_neg hik, wl_get ad cA (n, sh, c) hi]
      simp only [Option.some.injEq, Prod.mk.injEq, true_and]
      exact (ent_congr (hoff i (fun q => hik q.symm))).symm
  · rw [List.getElem?_eq_none (by rw [List.length_set, wl_len]; exact Nat.not_lt.mp hi), List.getElem?_eq_none (by rw [wl_len]; exact Nat.not_lt.mp hi)]
theorem up2_off {c : Int → Int → Int} {k : Nat} {i x : Int} : ∀ k' : Nat, k' ≠ k → ∀ j : Nat, up2 c k i x k' j = c k' j := by
  intro k' h j
  have h2 : ¬ (k' : Int) = (k : Int) := by omega
  simp [up2, h2]
theorem up2_row {α : Type} {c : Int → Int → Int} {k i : Nat} {x : Int} (F : Int → α) : (fun j : Nat => F (up2 c k i x k j)) = fun j => if j = i then F x else F (c k j) := by
  funext j
  by_cases h : j = i
  · subst h; simp [up2]
  · have h2 : ¬ (j : Int) = (i : Int) := by omega
    simp [up2, h, h2]
/-- a row of a kind below 13, one place new -/
theorem wl_upI {ad : Nat → Nat} {cA : Nat → ClassId} {n : Nat} {sh : Nat → Nat × Nat} {c : Int → Int → Int} {k i : Nat} {x : Int} (hkd : 10 ≤ (sh k).1 ∧ (sh k).1 < 13) :
    (wl ad cA (n, sh, c)).set k (ad k, .inl (cA (sh k).1, (sh k).2, .inl (upd (fun j : Nat => Int32.ofInt (c k j)) i (Int32.ofInt x)))) = wl ad cA (n, sh, up2 c k i x) := by
  refine wl_set up2_off ?_
  have h1 : ¬ (sh k).1 < 10 := by omega
  simp only [ent, h1, hkd.2, if_false, if_true]
  rw [up2_row (fun z => Int32.ofInt z)]
  rfl
theorem wl_upL {ad : Nat → Nat} {cA : Nat → ClassId} {n : Nat} {sh : Nat → Nat × Nat} {c : Int → Int → Int} {k i : Nat} {x : Int} (hkd : (sh k).1 = 13) :
    (wl ad cA (n, sh, c)).set k (ad k, .inl (cA 13, (sh k).2, .inr (.inl (vp_updL (fun j : Nat => Int64.ofInt (c k j)) i (Int64.ofInt x))))) = wl ad cA (n, sh, up2 c k i x) := by
  refine wl_set up2_off ?_
  simp only [ent, hkd]
  rw [up2_row (fun z => Int64.ofInt z)]
  rfl
theorem wl_upR {ad : Nat → Nat} {cA : Nat → ClassId} {n : Nat} {sh : Nat → Nat × Nat} {c : Int → Int → Int} {k i : Nat} {x : Int} (hkd : 14 ≤ (sh k).1) :
    (wl ad cA (n, sh, c)).set k (ad k, .inl (cA (sh k).1, (sh k).2, .inr (.inr (.inr (.inr (va_up (fun j : Nat => cr ad (c k j)) i (cr ad x))))))) = wl ad cA (n, sh, up2 c k i x) := by
  refine wl_set up2_off ?_
  have h1 : ¬ (sh k).1 < 10 := by omega
  have h2 : ¬ (sh k).1 < 13 := by omega
  have h3 : ¬ (sh k).1 = 13 := by omega
  simp only [ent, h1, h2, h3, if_false]
  rw [up2_row (fun z => cr ad z)]
  rfl
theorem wl_upF {ad : Nat → Nat} {cA : Nat → ClassId} {n : Nat} {sh : Nat → Nat × Nat} {c : Int → Int → Int} {k i : Nat} {x : Int} (hkd : (sh k).1 < 10) (hi : i < nflds (sh k).1) :
    (wl ad cA (n, sh, c)).set k (ad k, .inr ((sh k).1, ((List.range (nflds (sh k).1)).map (fun j => cf ad (fldT (sh k).1 j) (c k j))).set i (cf ad (fldT (sh k).1 i) x))) = wl ad cA (n, sh, up2 c k i x) := by
  refine wl_set up2_off ?_
  simp only [ent, hkd, if_true]
  congr 2
  apply List.ext_getElem?
  intro j
  by_cases hj : j < nflds (sh k).1
  · rw [List.getElem?_set]
    by_cases hij : i = j
    · subst hij
      simp [hi, up2]
    · have h2 : ¬ (j : Int) = (i : Int) := by omega
      simp [hij, hj, up2, h2]
  · rw [List.getElem?_eq_none (by simpa using hj), List.getElem?_eq_none (by simpa using hj)]
theorem HV.up {n : Nat} {sh : Nat → Nat × Nat} {c : Int → Int → Int} {k i : Nat} {x : Int} (h : HV (n, sh, c)) (hx : refSlot (sh k).1 i = true → x < n) : HV (n, sh, up2 c k i x) := by
  intro a b ha hr
  by_cases hq : (a : Int) = (k : Int) ∧ (b : Int) = (i : Int)
  · have e1 : a = k := by omega
    have e2 : b = i := by omega
    subst e1; subst e2
    simpa [up2] using hx hr
  · simpa [up2, hq] using h a b ha hr
theorem HV.upN {n : Nat} {sh : Nat → Nat × Nat} {c : Int → Int → Int} {k i : Nat} {x : Int} (h : HV (n, sh, c)) (hx : refSlot (sh k).1 i = false) : HV (n, sh, up2 c k i x) := h.up (fun q => by rw [hx] at q; cases q)
