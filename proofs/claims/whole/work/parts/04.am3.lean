/-! RULES: one an instruction -/
def ir (x : Int) : Prop := -2147483648 ≤ x ∧ x ≤ 2147483647
def il (x : Int) : Prop := -9223372036854775808 ≤ x ∧ x ≤ 9223372036854775807
def bAnd (x y : Int) : Int := (Int32.ofInt x &&& Int32.ofInt y).toInt
def bOr (x y : Int) : Int := (Int32.ofInt x ||| Int32.ofInt y).toInt
def bXor (x y : Int) : Int := (Int32.ofInt x ^^^ Int32.ofInt y).toInt
def bShl (x y : Int) : Int := (Int32.ofInt x <<< (Int32.ofInt y &&& 31)).toInt
def bShr (x y : Int) : Int := (Int32.ofInt x >>> (Int32.ofInt y &&& 31)).toInt
def bUshr (x y : Int) : Int := ((Int32.ofInt x).toUInt32 >>> ((Int32.ofInt y).toUInt32 &&& Int32.toUInt32 31)).toInt32.toInt
def toB (x : Int) : Int := (Int32.ofInt x).toInt8.toInt32.toInt
def toS (x : Int) : Int := (Int32.ofInt x).toInt16.toInt32.toInt
def toC (x : Int) : Int := ((Int32.ofInt x).toUInt32 % 65536).toInt32.toInt
def toI (x : Int) : Int := (Int64.ofInt x).toInt32.toInt
def lAnd (x y : Int) : Int := (Int64.ofInt x &&& Int64.ofInt y).toInt
def lOr (x y : Int) : Int := (Int64.ofInt x ||| Int64.ofInt y).toInt
def lShl (x y : Int) : Int := (Int64.ofInt x <<< ((Int32.ofInt y).toInt64 &&& 63)).toInt
theorem ir_lo {a : Int} (h : ir a) : Int32.minValue.toInt ≤ a := h.1
theorem ir_hi {a : Int} (h : ir a) : a ≤ Int32.maxValue.toInt := h.2
theorem il_lo {a : Int} (h : il a) : Int64.minValue.toInt ≤ a := h.1
theorem il_hi {a : Int} (h : il a) : a ≤ Int64.maxValue.toInt := h.2
theorem i_lt {a b : Int} (ha : ir a) (hb : ir b) : Int32.ofInt a < Int32.ofInt b ↔ a < b := Int32.ofInt_lt_iff_lt (ir_lo ha) (ir_hi ha) (ir_lo hb) (ir_hi hb)
theorem i_le {a b : Int} (ha : ir a) (hb : ir b) : Int32.ofInt a ≤ Int32.ofInt b ↔ a ≤ b := Int32.ofInt_le_iff_le (ir_lo ha) (ir_hi ha) (ir_lo hb) (ir_hi hb)
theorem i_to {a : Int} (h : ir a) : (Int32.ofInt a).toInt = a := Int32.toInt_ofInt_of_le (by have := h.1; omega) (by have := h.2; omega)
theorem i_eq {a b : Int} (ha : ir a) (hb : ir b) : Int32.ofInt a = Int32.ofInt b ↔ a = b := ⟨fun q => by rw [← i_to ha, ← i_to hb, q], fun q => by rw [q]⟩
theorem l_to {a : Int} (h : il a) : (Int64.ofInt a).toInt = a := Int64.toInt_ofInt_of_le (by have := h.1; omega) (by have := h.2; omega)
theorem ir0 : ir 0 := ⟨by decide, by decide⟩
theorem ir_toInt (z : Int32) : ir z.toInt := ⟨by have := Int32.le_toInt z; omega, by have := Int32.toInt_lt z; omega⟩
theorem il_toInt (z : Int64) : il z.toInt := ⟨by have := Int64.le_toInt z; omega, by have := Int64.toInt_lt z; omega⟩
theorem i_clamp {a : Int} (h0 : 0 ≤ a) (h1 : a < 2147483648) : (Int32.ofInt a).toNatClampNeg = a.toNat := by
  show (Int32.ofInt a).toInt.toNat = a.toNat
  rw [i_to ⟨by omega, by omega⟩]
theorem i_in {a : Int} {n : Nat} (h0 : 0 ≤ a) (h1 : a < n) (hn : n ≤ 2147483648) : vp_in (Int32.ofInt a) n := by
  have h : ir a := ⟨by omega, by omega⟩
  rw [vp_in_iff, i_to h]
  exact ⟨h0, h1⟩
def gl : List av → Nat → av
  | [], _ => (9, 0)
  | a :: _, 0 => a
  | _ :: l, i + 1 => gl l i
def sl : List av → Nat → av → List av
  | [], _, _ => []
  | _ :: l, 0, v => v :: l
  | a :: l, i + 1, v => a :: sl l i v
/-- no long stands at the place ahead -/
def nlb (L : List av) : Nat → Bool
  | 0 => true
  | i + 1 => (gl L i).1 != 1
theorem gl_get : ∀ {L : List av} {i : Nat} {v : av}, gl L i = v → v.1 ≠ 9 → L[i]? = some v
  | [], _, _, h, h9 => by subst h; exact absurd rfl h9
  | a :: _, 0, _, h, _ => by subst h; rfl
  | _ :: l, i + 1, v, h, h9 => by simpa using gl_get (L := l) (i := i) (v := v) h h9
theorem get_gl : ∀ {L : List av} {i : Nat} {v : av}, L[i]? = some v → gl L i = v
  | [], _, _, h => by simp at h
  | a :: _, 0, _, h => by simpa [gl] using h
  | _ :: l, i + 1, v, h => by simpa [gl] using get_gl (L := l) (i := i) (v := v) (by simpa using h)
theorem sl_eq : ∀ (L : List av) (i : Nat) (v : av), sl L i v = L.set i v
  | [], _, _ => rfl
  | _ :: _, 0, _ => rfl
  | a :: l, i + 1, v => by simp [sl, sl_eq l i v]
theorem Lok.at {V : av → Value} {nL : Nat} {L : List av} {ls : Array Slot} (h : Lok V nL L ls) {i : Nat} {v : av} (hi : gl L i = v) (h9 : v.1 ≠ 9) : ls[i]? = some (.val (V v)) := h.2.2 i v (gl_get hi h9) h9
def lvs (V : av → Value) (L : List av) : List (Nat × Value) := (List.range L.length).filterMap (fun i => if (gl L i).1 = 9 then none else some (i, V (gl L i)))
theorem mem_lvs {V : av → Value} {L : List av} {q : Nat × Value} : q ∈ lvs V L ↔ ∃ v, L[q.1]? = some v ∧ v.1 ≠ 9 ∧ q.2 = V v := by
  unfold lvs
  rw [List.mem_filterMap]
  constructor
  · rintro ⟨i, hi, h⟩
    by_cases h9 : (gl L i).1 = 9
    · rw [if_pos h9] at h; cases h
    · rw [if_neg h9] at h
      cases h
      exact ⟨gl L i, gl_get rfl h9, h9, rfl⟩
  · rintro ⟨v, h1, h2, h3⟩
    have hlt : q.1 < L.length := (List.getElem?_eq_some_iff.mp h1).1
    have hg := get_gl h1
    refine ⟨q.1, List.mem_range.mpr hlt, ?_⟩
    rw [hg, if_neg h2, ← h3]
theorem Lok.has {V : av → Value} {nL : Nat} {L : List av} {ls : Array Slot} (h : Lok V nL L ls) : lv_has ls nL (lvs V L) := ⟨h.1, h.2.1, fun q hq => by
  obtain ⟨v, h1, h2, h3⟩ := mem_lvs.mp hq
  rw [h3]; exact h.2.2 _ _ h1 h2⟩
/-- behind a store of one slot -/
theorem Lok.st {V : av → Value} (hV : ∀ v, (V v).category = if v.1 = 1 then 2 else 1) {nL : Nat} {L : List av} {ls : Array Slot} {i : Nat} {v : av} {w : Value} (hn : nlb L i = true) (hw : w = V v)
    (h : lv_has ls nL ((i, w) :: (lvs V L).filter (fun q => !(q.1 == i) && !(q.1 + 1 == i && q.2.category == 2)))) : Lok V nL (sl L i v) ls := by
  refine ⟨h.1, h.2.1, fun j u hj h9 => ?_⟩
  rw [sl_eq, List.getElem?_set] at hj
  by_cases hij : i = j
  · subst hij
    rw [if_pos rfl] at hj
    by_cases hlt : i < L.length
    · rw [if_pos hlt] at hj
      cases hj
      rw [← hw]
      exact h.2.2 _ List.mem_cons_self
    · rw [if_neg hlt] at hj; cases hj
  · rw [if_neg hij] at hj
    refine h.2.2 (j, V u) (List.mem_cons_of_mem _ (List.mem_filter.mpr ⟨mem_lvs.mpr ⟨u, hj, h9, rfl⟩, ?_⟩))
    have h1 : (j == i) = false := by simp; omega
    have h2 : (j + 1 == i && (V u).category == 2) = false := by
      by_cases hji : j + 1 = i
      · subst hji
        have hg := get_gl hj
        simp only [nlb, hg, bne_iff_ne, ne_eq] at hn
        rw [hV u, if_neg hn]
        simp
      · simp [hji]
    simp [h1, h2]
def avc (v : av) : Nat := if v.1 = 1 then 2 else 1
theorem cat_sum {ad ros : Nat → Nat} {fm : Value} (hf : fm = .null ∨ ∃ a, fm = .ref a) (st : List av) : ((st.map (cv ad ros fm)).map fun v => v.category).sum = (st.map avc).sum := by
  rw [List.map_map]
  congr 1
  apply List.map_congr_left
  intro v _
  exact cv_cat ad ros hf v

theorem R_iconst {K : Launch × Nat × (Nat → Int)} {d : Nat} {y : mth} {kc ks pc pc' : Nat} {L st : List av} {G : hp} {Q : hp → av → Prop} {n : Int} (hd : decode y.2.1 pc = .ok (.iconst n, 1))  (hn : pc + 1 = pc') (k : WP K d y kc ks pc' L ((0, n) :: st) G Q) : WP K d y kc ks pc L (st) G Q := by
  subst hn
  intro p e s m args below meth c D cA ros fm A n0 ad0 QW ad H locs ls C hR hS hn0 ha hl
  obtain ⟨⟨hx, hb, hml, hr, hlk, hown, hmn, hts, hnw⟩, hK, hSW, hA, hRC⟩ := id C
  have k' := k p e s m args below meth c D cA ros fm A n0 ad0 QW ad H locs ls C hR hS hn0 ha hl
  exact lv_iconst hx hb hd rfl (W.eq (rfl) k')
theorem R_bipush {K : Launch × Nat × (Nat → Int)} {d : Nat} {y : mth} {kc ks pc pc' : Nat} {L st : List av} {G : hp} {Q : hp → av → Prop} {n : Int} (hd : decode y.2.1 pc = .ok (.bipush n, 2)) (hv : (Int8.ofInt n).toInt32 = Int32.ofInt n) (hn : pc + 2 = pc') (k : WP K d y kc ks pc' L ((0, n) :: st) G Q) : WP K d y kc ks pc L (st) G Q := by
  subst hn
  intro p e s m args below meth c D cA ros fm A n0 ad0 QW ad H locs ls C hR hS hn0 ha hl
  obtain ⟨⟨hx, hb, hml, hr, hlk, hown, hmn, hts, hnw⟩, hK, hSW, hA, hRC⟩ := id C
  have k' := k p e s m args below meth c D cA ros fm A n0 ad0 QW ad H locs ls C hR hS hn0 ha hl
  exact lv_bipush hx hb hd hv (W.eq (rfl) k')
theorem R_sipush {K : Launch × Nat × (Nat → Int)} {d : Nat} {y : mth} {kc ks pc pc' : Nat} {L st : List av} {G : hp} {Q : hp → av → Prop} {n : Int} (hd : decode y.2.1 pc = .ok (.sipush n, 3)) (hv : (Int16.ofInt n).toInt32 = Int32.ofInt n) (hn : pc + 3 = pc') (k : WP K d y kc ks pc' L ((0, n) :: st) G Q) : WP K d y kc ks pc L (st) G Q := by
  subst hn
  intro p e s m args below meth c D cA ros fm A n0 ad0 QW ad H locs ls C hR hS hn0 ha hl
  obtain ⟨⟨hx, hb, hml, hr, hlk, hown, hmn, hts, hnw⟩, hK, hSW, hA, hRC⟩ := id C
  have k' := k p e s m args below meth c D cA ros fm A n0 ad0 QW ad H locs ls C hR hS hn0 ha hl
  exact lv_sipush hx hb hd hv (W.eq (rfl) k')
theorem R_lconst {K : Launch × Nat × (Nat → Int)} {d : Nat} {y : mth} {kc ks pc pc' : Nat} {L st : List av} {G : hp} {Q : hp → av → Prop} {n : Fin 2} {x : Int} (hd : decode y.2.1 pc = .ok (.lconst n, 1)) (hv : Int64.ofNat (n : Nat) = Int64.ofInt x) (hn : pc + 1 = pc') (k : WP K d y kc ks pc' L ((1, x) :: st) G Q) : WP K d y kc ks pc L (st) G Q := by
  subst hn
  intro p e s m args below meth c D cA ros fm A n0 ad0 QW ad H locs ls C hR hS hn0 ha hl
  obtain ⟨⟨hx, hb, hml, hr, hlk, hown, hmn, hts, hnw⟩, hK, hSW, hA, hRC⟩ := id C
  have k' := k p e s m args below meth c D cA ros fm A n0 ad0 QW ad H locs ls C hR hS hn0 ha hl
  exact lv_lconst hx hb hd hv (W.eq (rfl) k')
theorem R_ldc {K : Launch × Nat × (Nat → Int)} {d : Nat} {y : mth} {kc ks pc pc' : Nat} {L st : List av} {G : hp} {Q : hp → av → Prop} {idx : Nat} {v : Int32} {x : Int} (hd : decode y.2.1 pc = .ok (.ldc idx, 2)) (hw : Cond.constant y.1.cls idx v ∈ wsA) (hv : v = Int32.ofInt x) (hn : pc + 2 = pc') (k : WP K d y kc ks pc' L ((0, x) :: st) G Q) : WP K d y kc ks pc L (st) G Q := by
  subst hn
  intro p e s m args below meth c D cA ros fm A n0 ad0 QW ad H locs ls C hR hS hn0 ha hl
  obtain ⟨⟨hx, hb, hml, hr, hlk, hown, hmn, hts, hnw⟩, hK, hSW, hA, hRC⟩ := id C
  have k' := k p e s m args below meth c D cA ros fm A n0 ad0 QW ad H locs ls C hR hS hn0 ha hl
  exact lv_ldc hx hb hown (hts _ hw) hd (W.eq (by subst hv; rfl) k')
theorem R_ldcw {K : Launch × Nat × (Nat → Int)} {d : Nat} {y : mth} {kc ks pc pc' : Nat} {L st : List av} {G : hp} {Q : hp → av → Prop} {idx : Nat} {v : Int32} {x : Int} (hd : decode y.2.1 pc = .ok (.ldc_w idx, 3)) (hw : Cond.constant y.1.cls idx v ∈ wsA) (hv : v = Int32.ofInt x) (hn : pc + 3 = pc') (k : WP K d y kc ks pc' L ((0, x) :: st) G Q) : WP K d y kc ks pc L (st) G Q := by
  subst hn
  intro p e s m args below meth c D cA ros fm A n0 ad0 QW ad H locs ls C hR hS hn0 ha hl
  obtain ⟨⟨hx, hb, hml, hr, hlk, hown, hmn, hts, hnw⟩, hK, hSW, hA, hRC⟩ := id C
  have k' := k p e s m args below meth c D cA ros fm A n0 ad0 QW ad H locs ls C hR hS hn0 ha hl
  exact lv_ldcw hx hb hown (hts _ hw) hd (W.eq (by subst hv; rfl) k')
theorem R_ldc2 {K : Launch × Nat × (Nat → Int)} {d : Nat} {y : mth} {kc ks pc pc' : Nat} {L st : List av} {G : hp} {Q : hp → av → Prop} {idx : Nat} {v : Int64} {x : Int} (hd : decode y.2.1 pc = .ok (.ldc2_w idx, 3)) (hw : Cond.constantLong y.1.cls idx v ∈ wsA) (hv : v = Int64.ofInt x) (hn : pc + 3 = pc') (k : WP K d y kc ks pc' L ((1, x) :: st) G Q) : WP K d y kc ks pc L (st) G Q := by
  subst hn
  intro p e s m args below meth c D cA ros fm A n0 ad0 QW ad H locs ls C hR hS hn0 ha hl
  obtain ⟨⟨hx, hb, hml, hr, hlk, hown, hmn, hts, hnw⟩, hK, hSW, hA, hRC⟩ := id C
  have k' := k p e s m args below meth c D cA ros fm A n0 ad0 QW ad H locs ls C hR hS hn0 ha hl
  exact lv_ldc2 hx hb hown (hts _ hw) hd (W.eq (by subst hv; rfl) k')
theorem R_iload_n {K : Launch × Nat × (Nat → Int)} {d : Nat} {y : mth} {kc ks pc pc' : Nat} {L st : List av} {G : hp} {Q : hp → av → Prop} {i : Fin 4} {x : Int} (hd : decode y.2.1 pc = .ok (.iload_n i, 1)) (hg : gl L i = (0, x)) (hn : pc + 1 = pc') (k : WP K d y kc ks pc' L ((0, x) :: st) G Q) : WP K d y kc ks pc L (st) G Q := by
  subst hn
  intro p e s m args below meth c D cA ros fm A n0 ad0 QW ad H locs ls C hR hS hn0 ha hl
  obtain ⟨⟨hx, hb, hml, hr, hlk, hown, hmn, hts, hnw⟩, hK, hSW, hA, hRC⟩ := id C
  have k' := k p e s m args below meth c D cA ros fm A n0 ad0 QW ad H locs ls C hR hS hn0 ha hl
  exact lv_iload_n hx hb hd rfl (hl.at hg (by simp)) (W.eq (rfl) k')
theorem R_iload {K : Launch × Nat × (Nat → Int)} {d : Nat} {y : mth} {kc ks pc pc' : Nat} {L st : List av} {G : hp} {Q : hp → av → Prop} {i : Nat} {x : Int} (hd : decode y.2.1 pc = .ok (.iload i, 2)) (hg : gl L i = (0, x)) (hn : pc + 2 = pc') (k : WP K d y kc ks pc' L ((0, x) :: st) G Q) : WP K d y kc ks pc L (st) G Q := by
  subst hn
  intro p e s m args below meth c D cA ros fm A n0 ad0 QW ad H locs ls C hR hS hn0 ha hl
  obtain ⟨⟨hx, hb, hml, hr, hlk, hown, hmn, hts, hnw⟩, hK, hSW, hA, hRC⟩ := id C
  have k' := k p e s m args below meth c D cA ros fm A n0 ad0 QW ad H locs ls C hR hS hn0 ha hl
  exact lv_iload hx hb hd (hl.at hg (by simp)) (W.eq (rfl) k')
theorem R_lload_n {K : Launch × Nat × (Nat → Int)} {d : Nat} {y : mth} {kc ks pc pc' : Nat} {L st : List av} {G : hp} {Q : hp → av → Prop} {i : Fin 4} {x : Int} (hd : decode y.2.1 pc = .ok (.lload_n i, 1)) (hg : gl L i = (1, x)) (hn : pc + 1 = pc') (k : WP K d y kc ks pc' L ((1, x) :: st) G Q) : WP K d y kc ks pc L (st) G Q := by
  subst hn
  intro p e s m args below meth c D cA ros fm A n0 ad0 QW ad H locs ls C hR hS hn0 ha hl
  obtain ⟨⟨hx, hb, hml, hr, hlk, hown, hmn, hts, hnw⟩, hK, hSW, hA, hRC⟩ := id C
  have k' := k p e s m args below meth c D cA ros fm A n0 ad0 QW ad H locs ls C hR hS hn0 ha hl
  exact lv_lload_n hx hb hd rfl (hl.at hg (by simp)) (W.eq (rfl) k')
theorem R_aload_n {K : Launch × Nat × (Nat → Int)} {d : Nat} {y : mth} {kc ks pc pc' : Nat} {L st : List av} {G : hp} {Q : hp → av → Prop} {i : Fin 4} {x : Int} (hd : decode y.2.1 pc = .ok (.aload_n i, 1)) (hg : gl L i = (2, x)) (h0 : 0 ≤ x) (hn : pc + 1 = pc') (k : WP K d y kc ks pc' L ((2, x) :: st) G Q) : WP K d y kc ks pc L (st) G Q := by
  subst hn
  intro p e s m args below meth c D cA ros fm A n0 ad0 QW ad H locs ls C hR hS hn0 ha hl
  obtain ⟨⟨hx, hb, hml, hr, hlk, hown, hmn, hts, hnw⟩, hK, hSW, hA, hRC⟩ := id C
  have k' := k p e s m args below meth c D cA ros fm A n0 ad0 QW ad H locs ls C hR hS hn0 ha hl
  have hc : cv ad ros fm (2, x) = .ref (ad x.toNat) := by simp only [cv, cr, if_neg (Int.not_lt.mpr h0), va_rf]
  exact lv_aload_n hx hb hd rfl (by rw [← hc]; exact hl.at hg (by simp)) (W.eq (by rw [List.map_cons, hc]) k')
theorem R_aload {K : Launch × Nat × (Nat → Int)} {d : Nat} {y : mth} {kc ks pc pc' : Nat} {L st : List av} {G : hp} {Q : hp → av → Prop} {i : Nat} {x : Int} (hd : decode y.2.1 pc = .ok (.aload i, 2)) (hg : gl L i = (2, x)) (h0 : 0 ≤ x) (hn : pc + 2 = pc') (k : WP K d y kc ks pc' L ((2, x) :: st) G Q) : WP K d y kc ks pc L (st) G Q := by
  subst hn
  intro p e s m args below meth c D cA ros fm A n0 ad0 QW ad H locs ls C hR hS hn0 ha hl
  obtain ⟨⟨hx, hb, hml, hr, hlk, hown, hmn, hts, hnw⟩, hK, hSW, hA, hRC⟩ := id C
  have k' := k p e s m args below meth c D cA ros fm A n0 ad0 QW ad H locs ls C hR hS hn0 ha hl
  have hc : cv ad ros fm (2, x) = .ref (ad x.toNat) := by simp only [cv, cr, if_neg (Int.not_lt.mpr h0), va_rf]
  exact lv_aload hx hb hd (by rw [← hc]; exact hl.at hg (by simp)) (W.eq (by rw [List.map_cons, hc]) k')
theorem R_aload_n3 {K : Launch × Nat × (Nat → Int)} {d : Nat} {y : mth} {kc ks pc pc' : Nat} {L st : List av} {G : hp} {Q : hp → av → Prop} {i : Fin 4} {x : Int} (hd : decode y.2.1 pc = .ok (.aload_n i, 1)) (hg : gl L i = (3, x)) (hn : pc + 1 = pc') (k : WP K d y kc ks pc' L ((3, x) :: st) G Q) : WP K d y kc ks pc L (st) G Q := by
  subst hn
  intro p e s m args below meth c D cA ros fm A n0 ad0 QW ad H locs ls C hR hS hn0 ha hl
  obtain ⟨⟨hx, hb, hml, hr, hlk, hown, hmn, hts, hnw⟩, hK, hSW, hA, hRC⟩ := id C
  have k' := k p e s m args below meth c D cA ros fm A n0 ad0 QW ad H locs ls C hR hS hn0 ha hl
  exact lv_aload_n hx hb hd rfl (hl.at hg (by simp)) (W.eq (rfl) k')
theorem R_iadd {K : Launch × Nat × (Nat → Int)} {d : Nat} {y : mth} {kc ks pc pc' : Nat} {L st : List av} {G : hp} {Q : hp → av → Prop} {a b : Int} (hd : decode y.2.1 pc = .ok (.iadd, 1))  (hn : pc + 1 = pc') (k : WP K d y kc ks pc' L ((0, a + b) :: st) G Q) : WP K d y kc ks pc L ((0, b) :: (0, a) :: st) G Q := by
  subst hn
  intro p e s m args below meth c D cA ros fm A n0 ad0 QW ad H locs ls C hR hS hn0 ha hl
  obtain ⟨⟨hx, hb, hml, hr, hlk, hown, hmn, hts, hnw⟩, hK, hSW, hA, hRC⟩ := id C
  have k' := k p e s m args below meth c D cA ros fm A n0 ad0 QW ad H locs ls C hR hS hn0 ha hl
  exact lv_iadd hx hb (x := Int32.ofInt a) (y := Int32.ofInt b) hd (W.eq (by show F0 _ _ _ (_ :: _) = F0 _ _ _ (Value.int (Int32.ofInt (a + b)) :: _); rw [Int32.ofInt_add]) k')
theorem R_isub {K : Launch × Nat × (Nat → Int)} {d : Nat} {y : mth} {kc ks pc pc' : Nat} {L st : List av} {G : hp} {Q : hp → av → Prop} {a b : Int} (hd : decode y.2.1 pc = .ok (.isub, 1))  (hn : pc + 1 = pc') (k : WP K d y kc ks pc' L ((0, a - b) :: st) G Q) : WP K d y kc ks pc L ((0, b) :: (0, a) :: st) G Q := by
  subst hn
  intro p e s m args below meth c D cA ros fm A n0 ad0 QW ad H locs ls C hR hS hn0 ha hl
  obtain ⟨⟨hx, hb, hml, hr, hlk, hown, hmn, hts, hnw⟩, hK, hSW, hA, hRC⟩ := id C
  have k' := k p e s m args below meth c D cA ros fm A n0 ad0 QW ad H locs ls C hR hS hn0 ha hl
  exact lv_isub hx hb (x := Int32.ofInt a) (y := Int32.ofInt b) hd (W.eq (by show F0 _ _ _ (_ :: _) = F0 _ _ _ (Value.int (Int32.ofInt (a - b)) :: _); rw [Int32.ofInt_sub]) k')
theorem R_imul {K : Launch × Nat × (Nat → Int)} {d : Nat} {y : mth} {kc ks pc pc' : Nat} {L st : List av} {G : hp} {Q : hp → av → Prop} {a b : Int} (hd : decode y.2.1 pc = .ok (.imul, 1))  (hn : pc + 1 = pc') (k : WP K d y kc ks pc' L ((0, a * b) :: st) G Q) : WP K d y kc ks pc L ((0, b) :: (0, a) :: st) G Q := by
  subst hn
  intro p e s m args below meth c D cA ros fm A n0 ad0 QW ad H locs ls C hR hS hn0 ha hl
  obtain ⟨⟨hx, hb, hml, hr, hlk, hown, hmn, hts, hnw⟩, hK, hSW, hA, hRC⟩ := id C
  have k' := k p e s m args below meth c D cA ros fm A n0 ad0 QW ad H locs ls C hR hS hn0 ha hl
  exact lv_imul hx hb (x := Int32.ofInt a) (y := Int32.ofInt b) hd (W.eq (by show F0 _ _ _ (_ :: _) = F0 _ _ _ (Value.int (Int32.ofInt (a * b)) :: _); rw [Int32.ofInt_mul]) k')
theorem R_ineg {K : Launch × Nat × (Nat → Int)} {d : Nat} {y : mth} {kc ks pc pc' : Nat} {L st : List av} {G : hp} {Q : hp → av → Prop} {a : Int} (hd : decode y.2.1 pc = .ok (.ineg, 1))  (hn : pc + 1 = pc') (k : WP K d y kc ks pc' L ((0, -a) :: st) G Q) : WP K d y kc ks pc L ((0, a) :: st) G Q := by
  subst hn
  intro p e s m args below meth c D cA ros fm A n0 ad0 QW ad H locs ls C hR hS hn0 ha hl
  obtain ⟨⟨hx, hb, hml, hr, hlk, hown, hmn, hts, hnw⟩, hK, hSW, hA, hRC⟩ := id C
  have k' := k p e s m args below meth c D cA ros fm A n0 ad0 QW ad H locs ls C hR hS hn0 ha hl
  exact lv_ineg hx hb (x := Int32.ofInt a) hd (W.eq (by show F0 _ _ _ (_ :: _) = F0 _ _ _ (Value.int (Int32.ofInt (-a)) :: _); rw [Int32.ofInt_neg]) k')
theorem R_idiv {K : Launch × Nat × (Nat → Int)} {d : Nat} {y : mth} {kc ks pc pc' : Nat} {L st : List av} {G : hp} {Q : hp → av → Prop} {a b : Int} (hd : decode y.2.1 pc = .ok (.idiv, 1)) (h0 : 0 < b) (h1 : ir a) (h2 : ir b) (hn : pc + 1 = pc') (k : WP K d y kc ks pc' L ((0, a.tdiv b) :: st) G Q) : WP K d y kc ks pc L ((0, b) :: (0, a) :: st) G Q := by
  subst hn
  intro p e s m args below meth c D cA ros fm A n0 ad0 QW ad H locs ls C hR hS hn0 ha hl
  obtain ⟨⟨hx, hb, hml, hr, hlk, hown, hmn, hts, hnw⟩, hK, hSW, hA, hRC⟩ := id C
  have k' := k p e s m args below meth c D cA ros fm A n0 ad0 QW ad H locs ls C hR hS hn0 ha hl
  exact lv_idiv hx hb (x := Int32.ofInt a) (y := Int32.ofInt b) hd (fun q => by have := (i_eq h2 ir0).mp q; omega) (W.eq (by show F0 _ _ _ (_ :: _) = F0 _ _ _ (Value.int (Int32.ofInt (a.tdiv b)) :: _); rw [Int32.ofInt_tdiv (ir_lo h1) (ir_hi h1) (ir_lo h2) (ir_hi h2)]) k')
theorem R_irem {K : Launch × Nat × (Nat → Int)} {d : Nat} {y : mth} {kc ks pc pc' : Nat} {L st : List av} {G : hp} {Q : hp → av → Prop} {a b : Int} (hd : decode y.2.1 pc = .ok (.irem, 1)) (h0 : 0 < b) (h1 : ir a) (h2 : ir b) (hn : pc + 1 = pc') (k : WP K d y kc ks pc' L ((0, a.tmod b) :: st) G Q) : WP K d y kc ks pc L ((0, b) :: (0, a) :: st) G Q := by
  subst hn
  intro p e s m args below meth c D cA ros fm A n0 ad0 QW ad H locs ls C hR hS hn0 ha hl
  obtain ⟨⟨hx, hb, hml, hr, hlk, hown, hmn, hts, hnw⟩, hK, hSW, hA, hRC⟩ := id C
  have k' := k p e s m args below meth c D cA ros fm A n0 ad0 QW ad H locs ls C hR hS hn0 ha hl
  exact lv_irem hx hb (x := Int32.ofInt a) (y := Int32.ofInt b) hd (fun q => by have := (i_eq h2 ir0).mp q; omega) (W.eq (by show F0 _ _ _ (_ :: _) = F0 _ _ _ (Value.int (Int32.ofInt (a.tmod b)) :: _); rw [Int32.ofInt_tmod (ir_lo h1) (ir_hi h1) (ir_lo h2) (ir_hi h2), irem_eq_mod]) k')
theorem R_iand {K : Launch × Nat × (Nat → Int)} {d : Nat} {y : mth} {kc ks pc pc' : Nat} {L st : List av} {G : hp} {Q : hp → av → Prop} {a b : Int} (hd : decode y.2.1 pc = .ok (.iand, 1))  (hn : pc + 1 = pc') (k : WP K d y kc ks pc' L ((0, bAnd a b) :: st) G Q) : WP K d y kc ks pc L ((0, b) :: (0, a) :: st) G Q := by
  subst hn
  intro p e s m args below meth c D cA ros fm A n0 ad0 QW ad H locs ls C hR hS hn0 ha hl
  obtain ⟨⟨hx, hb, hml, hr, hlk, hown, hmn, hts, hnw⟩, hK, hSW, hA, hRC⟩ := id C
  have k' := k p e s m args below meth c D cA ros fm A n0 ad0 QW ad H locs ls C hR hS hn0 ha hl
  exact lv_iand hx hb (x := Int32.ofInt a) (y := Int32.ofInt b) hd (W.eq (by show F0 _ _ _ (_ :: _) = F0 _ _ _ (Value.int (Int32.ofInt (bAnd a b)) :: _); rw [bAnd, Int32.ofInt_toInt]) k')
theorem R_ior {K : Launch × Nat × (Nat → Int)} {d : Nat} {y : mth} {kc ks pc pc' : Nat} {L st : List av} {G : hp} {Q : hp → av → Prop} {a b : Int} (hd : decode y.2.1 pc = .ok (.ior, 1))  (hn : pc + 1 = pc') (k : WP K d y kc ks pc' L ((0, bOr a b) :: st) G Q) : WP K d y kc ks pc L ((0, b) :: (0, a) :: st) G Q := by
  subst hn
  intro p e s m args below meth c D cA ros fm A n0 ad0 QW ad H locs ls C hR hS hn0 ha hl
  obtain ⟨⟨hx, hb, hml, hr, hlk, hown, hmn, hts, hnw⟩, hK, hSW, hA, hRC⟩ := id C
  have k' := k p e s m args below meth c D cA ros fm A n0 ad0 QW ad H locs ls C hR hS hn0 ha hl
  exact lv_ior hx hb (x := Int32.ofInt a) (y := Int32.ofInt b) hd (W.eq (by show F0 _ _ _ (_ :: _) = F0 _ _ _ (Value.int (Int32.ofInt (bOr a b)) :: _); rw [bOr, Int32.ofInt_toInt]) k')
theorem R_ixor {K : Launch × Nat × (Nat → Int)} {d : Nat} {y : mth} {kc ks pc pc' : Nat} {L st : List av} {G : hp} {Q : hp → av → Prop} {a b : Int} (hd : decode y.2.1 pc = .ok (.ixor, 1))  (hn : pc + 1 = pc') (k : WP K d y kc ks pc' L ((0, bXor a b) :: st) G Q) : WP K d y kc ks pc L ((0, b) :: (0, a) :: st) G Q := by
  subst hn
  intro p e s m args below meth c D cA ros fm A n0 ad0 QW ad H locs ls C hR hS hn0 ha hl
  obtain ⟨⟨hx, hb, hml, hr, hlk, hown, hmn, hts, hnw⟩, hK, hSW, hA, hRC⟩ := id C
  have k' := k p e s m args below meth c D cA ros fm A n0 ad0 QW ad H locs ls C hR hS hn0 ha hl
  exact lv_ixor hx hb (x := Int32.ofInt a) (y := Int32.ofInt b) hd (W.eq (by show F0 _ _ _ (_ :: _) = F0 _ _ _ (Value.int (Int32.ofInt (bXor a b)) :: _); rw [bXor, Int32.ofInt_toInt]) k')
theorem R_ishl {K : Launch × Nat × (Nat → Int)} {d : Nat} {y : mth} {kc ks pc pc' : Nat} {L st : List av} {G : hp} {Q : hp → av → Prop} {a b : Int} (hd : decode y.2.1 pc = .ok (.ishl, 1))  (hn : pc + 1 = pc') (k : WP K d y kc ks pc' L ((0, bShl a b) :: st) G Q) : WP K d y kc ks pc L ((0, b) :: (0, a) :: st) G Q := by
  subst hn
  intro p e s m args below meth c D cA ros fm A n0 ad0 QW ad H locs ls C hR hS hn0 ha hl
  obtain ⟨⟨hx, hb, hml, hr, hlk, hown, hmn, hts, hnw⟩, hK, hSW, hA, hRC⟩ := id C
  have k' := k p e s m args below meth c D cA ros fm A n0 ad0 QW ad H locs ls C hR hS hn0 ha hl
  exact lv_ishl hx hb (x := Int32.ofInt a) (y := Int32.ofInt b) hd (W.eq (by show F0 _ _ _ (_ :: _) = F0 _ _ _ (Value.int (Int32.ofInt (bShl a b)) :: _); rw [bShl, Int32.ofInt_toInt]) k')
theorem R_ishr {K : Launch × Nat × (Nat → Int)} {d : Nat} {y : mth} {kc ks pc pc' : Nat} {L st : List av} {G : hp} {Q : hp → av → Prop} {a b : Int} (hd : decode y.2.1 pc = .ok (.ishr, 1))  (hn : pc + 1 = pc') (k : WP K d y kc ks pc' L ((0, bShr a b) :: st) G Q) : WP K d y kc ks pc L ((0, b) :: (0, a) :: st) G Q := by
  subst hn
  intro p e s m args below meth c D cA ros fm A n0 ad0 QW ad H locs ls C hR hS hn0 ha hl
  obtain ⟨⟨hx, hb, hml, hr, hlk, hown, hmn, hts, hnw⟩, hK, hSW, hA, hRC⟩ := id C
  have k' := k p e s m args below meth c D cA ros fm A n0 ad0 QW ad H locs ls C hR hS hn0 ha hl
  exact lv_ishr hx hb (x := Int32.ofInt a) (y := Int32.ofInt b) hd (W.eq (by show F0 _ _ _ (_ :: _) = F0 _ _ _ (Value.int (Int32.ofInt (bShr a b)) :: _); rw [bShr, Int32.ofInt_toInt]) k')
theorem R_iushr {K : Launch × Nat × (Nat → Int)} {d : Nat} {y : mth} {kc ks pc pc' : Nat} {L st : List av} {G : hp} {Q : hp → av → Prop} {a b : Int} (hd : decode y.2.1 pc = .ok (.iushr, 1))  (hn : pc + 1 = pc') (k : WP K d y kc ks pc' L ((0, bUshr a b) :: st) G Q) : WP K d y kc ks pc L ((0, b) :: (0, a) :: st) G Q := by
  subst hn
  intro p e s m args below meth c D cA ros fm A n0 ad0 QW ad H locs ls C hR hS hn0 ha hl
  obtain ⟨⟨hx, hb, hml, hr, hlk, hown, hmn, hts, hnw⟩, hK, hSW, hA, hRC⟩ := id C
  have k' := k p e s m args below meth c D cA ros fm A n0 ad0 QW ad H locs ls C hR hS hn0 ha hl
  exact lv_iushr hx hb (x := Int32.ofInt a) (y := Int32.ofInt b) hd rfl (W.eq (by show F0 _ _ _ (_ :: _) = F0 _ _ _ (Value.int (Int32.ofInt (bUshr a b)) :: _); rw [bUshr, Int32.ofInt_toInt]) k')
theorem R_i2b {K : Launch × Nat × (Nat → Int)} {d : Nat} {y : mth} {kc ks pc pc' : Nat} {L st : List av} {G : hp} {Q : hp → av → Prop} {a : Int} (hd : decode y.2.1 pc = .ok (.i2b, 1))  (hn : pc + 1 = pc') (k : WP K d y kc ks pc' L ((0, toB a) :: st) G Q) : WP K d y kc ks pc L ((0, a) :: st) G Q := by
  subst hn
  intro p e s m args below meth c D cA ros fm A n0 ad0 QW ad H locs ls C hR hS hn0 ha hl
  obtain ⟨⟨hx, hb, hml, hr, hlk, hown, hmn, hts, hnw⟩, hK, hSW, hA, hRC⟩ := id C
  have k' := k p e s m args below meth c D cA ros fm A n0 ad0 QW ad H locs ls C hR hS hn0 ha hl
  exact lv_i2b hx hb (x := Int32.ofInt a) hd rfl (W.eq (by show F0 _ _ _ (_ :: _) = F0 _ _ _ (Value.int (Int32.ofInt (toB a)) :: _); rw [toB, Int32.ofInt_toInt]) k')
theorem R_i2s {K : Launch × Nat × (Nat → Int)} {d : Nat} {y : mth} {kc ks pc pc' : Nat} {L st : List av} {G : hp} {Q : hp → av → Prop} {a : Int} (hd : decode y.2.1 pc = .ok (.i2s, 1))  (hn : pc + 1 = pc') (k : WP K d y kc ks pc' L ((0, toS a) :: st) G Q) : WP K d y kc ks pc L ((0, a) :: st) G Q := by
  subst hn
  intro p e s m args below meth c D cA ros fm A n0 ad0 QW ad H locs ls C hR hS hn0 ha hl
  obtain ⟨⟨hx, hb, hml, hr, hlk, hown, hmn, hts, hnw⟩, hK, hSW, hA, hRC⟩ := id C
  have k' := k p e s m args below meth c D cA ros fm A n0 ad0 QW ad H locs ls C hR hS hn0 ha hl
  exact lv_i2s hx hb (x := Int32.ofInt a) hd rfl (W.eq (by show F0 _ _ _ (_ :: _) = F0 _ _ _ (Value.int (Int32.ofInt (toS a)) :: _); rw [toS, Int32.ofInt_toInt]) k')
theorem R_i2c {K : Launch × Nat × (Nat → Int)} {d : Nat} {y : mth} {kc ks pc pc' : Nat} {L st : List av} {G : hp} {Q : hp → av → Prop} {a : Int} (hd : decode y.2.1 pc = .ok (.i2c, 1))  (hn : pc + 1 = pc') (k : WP K d y kc ks pc' L ((0, toC a) :: st) G Q) : WP K d y kc ks pc L ((0, a) :: st) G Q := by
  subst hn
  intro p e s m args below meth c D cA ros fm A n0 ad0 QW ad H locs ls C hR hS hn0 ha hl
  obtain ⟨⟨hx, hb, hml, hr, hlk, hown, hmn, hts, hnw⟩, hK, hSW, hA, hRC⟩ := id C
  have k' := k p e s m args below meth c D cA ros fm A n0 ad0 QW ad H locs ls C hR hS hn0 ha hl
  exact lv_i2c hx hb (x := Int32.ofInt a) hd rfl (W.eq (by show F0 _ _ _ (_ :: _) = F0 _ _ _ (Value.int (Int32.ofInt (toC a)) :: _); rw [toC, Int32.ofInt_toInt]) k')
theorem R_i2l {K : Launch × Nat × (Nat → Int)} {d : Nat} {y : mth} {kc ks pc pc' : Nat} {L st : List av} {G : hp} {Q : hp → av → Prop} {a : Int} (hd : decode y.2.1 pc = .ok (.i2l, 1)) (h1 : ir a) (hn : pc + 1 = pc') (k : WP K d y kc ks pc' L ((1, a) :: st) G Q) : WP K d y kc ks pc L ((0, a) :: st) G Q := by
  subst hn
  intro p e s m args below meth c D cA ros fm A n0 ad0 QW ad H locs ls C hR hS hn0 ha hl
  obtain ⟨⟨hx, hb, hml, hr, hlk, hown, hmn, hts, hnw⟩, hK, hSW, hA, hRC⟩ := id C
  have k' := k p e s m args below meth c D cA ros fm A n0 ad0 QW ad H locs ls C hR hS hn0 ha hl
  exact lv_i2l hx hb (x := Int32.ofInt a) (v := Int64.ofInt a) hd (by rw [← Int64.ofInt_int32ToInt, i_to h1]) (W.eq (rfl) k')
theorem R_l2i {K : Launch × Nat × (Nat → Int)} {d : Nat} {y : mth} {kc ks pc pc' : Nat} {L st : List av} {G : hp} {Q : hp → av → Prop} {a : Int} (hd : decode y.2.1 pc = .ok (.l2i, 1))  (hn : pc + 1 = pc') (k : WP K d y kc ks pc' L ((0, toI a) :: st) G Q) : WP K d y kc ks pc L ((1, a) :: st) G Q := by
  subst hn
  intro p e s m args below meth c D cA ros fm A n0 ad0 QW ad H locs ls C hR hS hn0 ha hl
  obtain ⟨⟨hx, hb, hml, hr, hlk, hown, hmn, hts, hnw⟩, hK, hSW, hA, hRC⟩ := id C
  have k' := k p e s m args below meth c D cA ros fm A n0 ad0 QW ad H locs ls C hR hS hn0 ha hl
  exact lv_l2i hx hb (x := Int64.ofInt a) hd rfl (W.eq (by show F0 _ _ _ (_ :: _) = F0 _ _ _ (Value.int (Int32.ofInt (toI a)) :: _); rw [toI, Int32.ofInt_toInt]) k')
theorem R_land {K : Launch × Nat × (Nat → Int)} {d : Nat} {y : mth} {kc ks pc pc' : Nat} {L st : List av} {G : hp} {Q : hp → av → Prop} {a b : Int} (hd : decode y.2.1 pc = .ok (.land, 1))  (hn : pc + 1 = pc') (k : WP K d y kc ks pc' L ((1, lAnd a b) :: st) G Q) : WP K d y kc ks pc L ((1, b) :: (1, a) :: st) G Q := by
  subst hn
  intro p e s m args below meth c D cA ros fm A n0 ad0 QW ad H locs ls C hR hS hn0 ha hl
  obtain ⟨⟨hx, hb, hml, hr, hlk, hown, hmn, hts, hnw⟩, hK, hSW, hA, hRC⟩ := id C
  have k' := k p e s m args below meth c D cA ros fm A n0 ad0 QW ad H locs ls C hR hS hn0 ha hl
  exact lv_land hx hb (x := Int64.ofInt a) (y := Int64.ofInt b) hd (W.eq (by show F0 _ _ _ (_ :: _) = F0 _ _ _ (Value.long (Int64.ofInt (lAnd a b)) :: _); rw [lAnd, Int64.ofInt_toInt]) k')
theorem R_lor {K : Launch × Nat × (Nat → Int)} {d : Nat} {y : mth} {kc ks pc pc' : Nat} {L st : List av} {G : hp} {Q : hp → av → Prop} {a b : Int} (hd : decode y.2.1 pc = .ok (.lor, 1))  (hn : pc + 1 = pc') (k : WP K d y kc ks pc' L ((1, lOr a b) :: st) G Q) : WP K d y kc ks pc L ((1, b) :: (1, a) :: st) G Q := by
  subst hn
  intro p e s m args below meth c D cA ros fm A n0 ad0 QW ad H locs ls C hR hS hn0 ha hl
  obtain ⟨⟨hx, hb, hml, hr, hlk, hown, hmn, hts, hnw⟩, hK, hSW, hA, hRC⟩ := id C
  have k' := k p e s m args below meth c D cA ros fm A n0 ad0 QW ad H locs ls C hR hS hn0 ha hl
  exact lv_lor hx hb (x := Int64.ofInt a) (y := Int64.ofInt b) hd (W.eq (by show F0 _ _ _ (_ :: _) = F0 _ _ _ (Value.long (Int64.ofInt (lOr a b)) :: _); rw [lOr, Int64.ofInt_toInt]) k')
theorem R_lshl {K : Launch × Nat × (Nat → Int)} {d : Nat} {y : mth} {kc ks pc pc' : Nat} {L st : List av} {G : hp} {Q : hp → av → Prop} {a b : Int} (hd : decode y.2.1 pc = .ok (.lshl, 1))  (hn : pc + 1 = pc') (k : WP K d y kc ks pc' L ((1, lShl a b) :: st) G Q) : WP K d y kc ks pc L ((0, b) :: (1, a) :: st) G Q := by
  subst hn
  intro p e s m args below meth c D cA ros fm A n0 ad0 QW ad H locs ls C hR hS hn0 ha hl
  obtain ⟨⟨hx, hb, hml, hr, hlk, hown, hmn, hts, hnw⟩, hK, hSW, hA, hRC⟩ := id C
  have k' := k p e s m args below meth c D cA ros fm A n0 ad0 QW ad H locs ls C hR hS hn0 ha hl
  exact lv_lshl hx hb (x := Int64.ofInt a) (y := Int32.ofInt b) hd rfl (W.eq (by show F0 _ _ _ (_ :: _) = F0 _ _ _ (Value.long (Int64.ofInt (lShl a b)) :: _); rw [lShl, Int64.ofInt_toInt]) k')
theorem R_lcmp_eq {K : Launch × Nat × (Nat → Int)} {d : Nat} {y : mth} {kc ks pc pc' : Nat} {L st : List av} {G : hp} {Q : hp → av → Prop} {a b : Int} (hd : decode y.2.1 pc = .ok (.lcmp, 1)) (he : a = b) (hn : pc + 1 = pc') (k : WP K d y kc ks pc' L ((0, 0) :: st) G Q) : WP K d y kc ks pc L ((1, b) :: (1, a) :: st) G Q := by
  subst hn
  intro p e s m args below meth c D cA ros fm A n0 ad0 QW ad H locs ls C hR hS hn0 ha hl
  obtain ⟨⟨hx, hb, hml, hr, hlk, hown, hmn, hts, hnw⟩, hK, hSW, hA, hRC⟩ := id C
  have k' := k p e s m args below meth c D cA ros fm A n0 ad0 QW ad H locs ls C hR hS hn0 ha hl
  exact W.lcmp hx hb (x := Int64.ofInt a) (y := Int64.ofInt b) hd (W.eq (by subst he; show F0 _ _ _ (Value.int (lg_cmp (Int64.ofInt a) (Int64.ofInt a)) :: _) = F0 _ _ _ (Value.int (Int32.ofInt 0) :: _); simp [lg_cmp]) k')
theorem R_lcmp_ne {K : Launch × Nat × (Nat → Int)} {d : Nat} {y : mth} {kc ks pc pc' : Nat} {L st : List av} {G : hp} {Q : hp → av → Prop} {a b x : Int} (hd : decode y.2.1 pc = .ok (.lcmp, 1)) (h1 : il a) (h2 : il b) (he : ¬ a = b) (hx0 : x = if b < a then 1 else -1) (hn : pc + 1 = pc') (k : WP K d y kc ks pc' L ((0, x) :: st) G Q) : WP K d y kc ks pc L ((1, b) :: (1, a) :: st) G Q := by
  subst hn
  intro p e s m args below meth c D cA ros fm A n0 ad0 QW ad H locs ls C hR hS hn0 ha hl
  obtain ⟨⟨hx, hb, hml, hr, hlk, hown, hmn, hts, hnw⟩, hK, hSW, hA, hRC⟩ := id C
  have k' := k p e s m args below meth c D cA ros fm A n0 ad0 QW ad H locs ls C hR hS hn0 ha hl
  exact W.lcmp hx hb (x := Int64.ofInt a) (y := Int64.ofInt b) hd (W.eq (by subst hx0; show F0 _ _ _ (Value.int (lg_cmp (Int64.ofInt a) (Int64.ofInt b)) :: _) = F0 _ _ _ (Value.int (Int32.ofInt (if b < a then 1 else -1)) :: _); have e1 : ¬ Int64.ofInt a = Int64.ofInt b := (fun q => he (by rw [← l_to h1, ← l_to h2, q])); have e2 := (Int64.ofInt_lt_iff_lt (il_lo h2) (il_hi h2) (il_lo h1) (il_hi h1)); simp only [lg_cmp, gt_iff_lt, e1, if_false, e2]; split <;> rfl) k')
theorem R_dup {K : Launch × Nat × (Nat → Int)} {d : Nat} {y : mth} {kc ks pc pc' : Nat} {L st : List av} {G : hp} {Q : hp → av → Prop} {v : av} (hd : decode y.2.1 pc = .ok (.dup, 1)) (h1 : v.1 ≠ 1) (hn : pc + 1 = pc') (k : WP K d y kc ks pc' L (v :: v :: st) G Q) : WP K d y kc ks pc L (v :: st) G Q := by
  subst hn
  intro p e s m args below meth c D cA ros fm A n0 ad0 QW ad H locs ls C hR hS hn0 ha hl
  obtain ⟨⟨hx, hb, hml, hr, hlk, hown, hmn, hts, hnw⟩, hK, hSW, hA, hRC⟩ := id C
  have k' := k p e s m args below meth c D cA ros fm A n0 ad0 QW ad H locs ls C hR hS hn0 ha hl
  exact lv_dup hx hb hd (by rw [cv_cat ad ros hSW.2.2.2.2.2.2.1, if_neg h1]) (W.eq (rfl) k')
theorem R_pop {K : Launch × Nat × (Nat → Int)} {d : Nat} {y : mth} {kc ks pc pc' : Nat} {L st : List av} {G : hp} {Q : hp → av → Prop} {v : av} (hd : decode y.2.1 pc = .ok (.pop, 1)) (h1 : v.1 ≠ 1) (hn : pc + 1 = pc') (k : WP K d y kc ks pc' L (st) G Q) : WP K d y kc ks pc L (v :: st) G Q := by
  subst hn
  intro p e s m args below meth c D cA ros fm A n0 ad0 QW ad H locs ls C hR hS hn0 ha hl
  obtain ⟨⟨hx, hb, hml, hr, hlk, hown, hmn, hts, hnw⟩, hK, hSW, hA, hRC⟩ := id C
  have k' := k p e s m args below meth c D cA ros fm A n0 ad0 QW ad H locs ls C hR hS hn0 ha hl
  exact lv_pop hx hb hd (by rw [cv_cat ad ros hSW.2.2.2.2.2.2.1, if_neg h1]) (W.eq (rfl) k')
theorem R_dup2 {K : Launch × Nat × (Nat → Int)} {d : Nat} {y : mth} {kc ks pc pc' : Nat} {L st : List av} {G : hp} {Q : hp → av → Prop} {v u : av} (hd : decode y.2.1 pc = .ok (.dup2, 1)) (h1 : v.1 ≠ 1) (h2 : u.1 ≠ 1) (hn : pc + 1 = pc') (k : WP K d y kc ks pc' L (v :: u :: v :: u :: st) G Q) : WP K d y kc ks pc L (v :: u :: st) G Q := by
  subst hn
  intro p e s m args below meth c D cA ros fm A n0 ad0 QW ad H locs ls C hR hS hn0 ha hl
  obtain ⟨⟨hx, hb, hml, hr, hlk, hown, hmn, hts, hnw⟩, hK, hSW, hA, hRC⟩ := id C
  have k' := k p e s m args below meth c D cA ros fm A n0 ad0 QW ad H locs ls C hR hS hn0 ha hl
  exact lv_dup2_11 hx hb hd (by rw [cv_cat ad ros hSW.2.2.2.2.2.2.1, if_neg h1]) (by rw [cv_cat ad ros hSW.2.2.2.2.2.2.1, if_neg h2]) (W.eq (rfl) k')
theorem R_istore_n {K : Launch × Nat × (Nat → Int)} {d : Nat} {y : mth} {kc ks pc pc' : Nat} {L st : List av} {G : hp} {Q : hp → av → Prop} {L' : List av} {i : Fin 4} {x : Int} (hd : decode y.2.1 pc = .ok (.istore_n i, 1)) (hi : (i : Nat) < y.2.2.1) (hb2 : nlb L i = true) (hL : sl L i (0, x) = L') (hn : pc + 1 = pc') (k : WP K d y kc ks pc' L' st G Q) : WP K d y kc ks pc L ((0, x) :: st) G Q := by
  subst hn; subst hL
  intro p e s m args below meth c D cA ros fm A n0 ad0 QW ad H locs ls C hR hS hn0 ha hl
  obtain ⟨⟨hx, hb, hml, hr, hlk, hown, hmn, hts, hnw⟩, hK, hSW, hA, hRC⟩ := id C
  exact lv_istore_n (x := Int32.ofInt x) hx hb hd rfl hl.has hi rfl (fun ls' hl' => k p e s m args below meth c D cA ros fm A n0 ad0 QW ad H locs ls' C hR hS hn0 ha (Lok.st (cv_cat ad ros hSW.2.2.2.2.2.2.1) hb2 rfl hl'))
theorem R_istore {K : Launch × Nat × (Nat → Int)} {d : Nat} {y : mth} {kc ks pc pc' : Nat} {L st : List av} {G : hp} {Q : hp → av → Prop} {L' : List av} {i : Nat} {x : Int} (hd : decode y.2.1 pc = .ok (.istore i, 2)) (hi : (i : Nat) < y.2.2.1) (hb2 : nlb L i = true) (hL : sl L i (0, x) = L') (hn : pc + 2 = pc') (k : WP K d y kc ks pc' L' st G Q) : WP K d y kc ks pc L ((0, x) :: st) G Q := by
  subst hn; subst hL
  intro p e s m args below meth c D cA ros fm A n0 ad0 QW ad H locs ls C hR hS hn0 ha hl
  obtain ⟨⟨hx, hb, hml, hr, hlk, hown, hmn, hts, hnw⟩, hK, hSW, hA, hRC⟩ := id C
  exact lv_istore (x := Int32.ofInt x) hx hb hd hl.has hi rfl (fun ls' hl' => k p e s m args below meth c D cA ros fm A n0 ad0 QW ad H locs ls' C hR hS hn0 ha (Lok.st (cv_cat ad ros hSW.2.2.2.2.2.2.1) hb2 rfl hl'))
theorem R_astore_n {K : Launch × Nat × (Nat → Int)} {d : Nat} {y : mth} {kc ks pc pc' : Nat} {L st : List av} {G : hp} {Q : hp → av → Prop} {L' : List av} {i : Fin 4} {x : Int} (hd : decode y.2.1 pc = .ok (.astore_n i, 1)) (h0 : 0 ≤ x) (hi : (i : Nat) < y.2.2.1) (hb2 : nlb L i = true) (hL : sl L i (2, x) = L') (hn : pc + 1 = pc') (k : WP K d y kc ks pc' L' st G Q) : WP K d y kc ks pc L ((2, x) :: st) G Q := by
  subst hn; subst hL
  intro p e s m args below meth c D cA ros fm A n0 ad0 QW ad H locs ls C hR hS hn0 ha hl
  obtain ⟨⟨hx, hb, hml, hr, hlk, hown, hmn, hts, hnw⟩, hK, hSW, hA, hRC⟩ := id C
  have hc : cv ad ros fm (2, x) = .ref (ad x.toNat) := by simp only [cv, cr, if_neg (Int.not_lt.mpr h0), va_rf]
  refine W.eq (g2 := F0 m pc ls (.ref (ad x.toNat) :: st.map (cv ad ros fm))) (by rw [List.map_cons, hc]) ?_
  exact lv_astore_n (x := ad x.toNat) hx hb hd rfl hl.has hi rfl (fun ls' hl' => k p e s m args below meth c D cA ros fm A n0 ad0 QW ad H locs ls' C hR hS hn0 ha (Lok.st (cv_cat ad ros hSW.2.2.2.2.2.2.1) hb2 hc.symm hl'))
theorem R_astore {K : Launch × Nat × (Nat → Int)} {d : Nat} {y : mth} {kc ks pc pc' : Nat} {L st : List av} {G : hp} {Q : hp → av → Prop} {L' : List av} {i : Nat} {x : Int} (hd : decode y.2.1 pc = .ok (.astore i, 2)) (h0 : 0 ≤ x) (hi : (i : Nat) < y.2.2.1) (hb2 : nlb L i = true) (hL : sl L i (2, x) = L') (hn : pc + 2 = pc') (k : WP K d y kc ks pc' L' st G Q) : WP K d y kc ks pc L ((2, x) :: st) G Q := by
  subst hn; subst hL
  intro p e s m args below meth c D cA ros fm A n0 ad0 QW ad H locs ls C hR hS hn0 ha hl
  obtain ⟨⟨hx, hb, hml, hr, hlk, hown, hmn, hts, hnw⟩, hK, hSW, hA, hRC⟩ := id C
  have hc : cv ad ros fm (2, x) = .ref (ad x.toNat) := by simp only [cv, cr, if_neg (Int.not_lt.mpr h0), va_rf]
  refine W.eq (g2 := F0 m pc ls (.ref (ad x.toNat) :: st.map (cv ad ros fm))) (by rw [List.map_cons, hc]) ?_
  exact lv_astore (x := ad x.toNat) hx hb hd hl.has hi rfl (fun ls' hl' => k p e s m args below meth c D cA ros fm A n0 ad0 QW ad H locs ls' C hR hS hn0 ha (Lok.st (cv_cat ad ros hSW.2.2.2.2.2.2.1) hb2 hc.symm hl'))
theorem R_iinc {K : Launch × Nat × (Nat → Int)} {d : Nat} {y : mth} {kc ks pc pc' : Nat} {L st : List av} {G : hp} {Q : hp → av → Prop} {L' : List av} {i : Nat} {n x : Int} (hd : decode y.2.1 pc = .ok (.iinc i n, 3)) (hg : gl L i = (0, x)) (hi : (i : Nat) < y.2.2.1) (hb2 : nlb L i = true) (hL : sl L i (0, x + n) = L') (hn : pc + 3 = pc') (k : WP K d y kc ks pc' L' st G Q) : WP K d y kc ks pc L st G Q := by
  subst hn; subst hL
  intro p e s m args below meth c D cA ros fm A n0 ad0 QW ad H locs ls C hR hS hn0 ha hl
  obtain ⟨⟨hx, hb, hml, hr, hlk, hown, hmn, hts, hnw⟩, hK, hSW, hA, hRC⟩ := id C
  obtain ⟨j, hj⟩ := List.getElem?_of_mem (mem_lvs.mpr ⟨(0, x), gl_get hg (by simp), by simp, rfl⟩ : (i, cv ad ros fm (0, x)) ∈ lvs (cv ad ros fm) L)
  exact lv_iinc (x := Int32.ofInt x) (v := Int32.ofInt (x + n)) hx hb hd hl.has (k := j) hj (by rw [Int32.ofInt_add]) hi rfl (fun ls' hl' => k p e s m args below meth c D cA ros fm A n0 ad0 QW ad H locs ls' C hR hS hn0 ha (Lok.st (cv_cat ad ros hSW.2.2.2.2.2.2.1) hb2 rfl hl'))
theorem R_if_eq {K : Launch × Nat × (Nat → Int)} {d : Nat} {y : mth} {kc ks pc pc' : Nat} {L st : List av} {G : hp} {Q : hp → av → Prop} {a off : Int} {tgt : Nat} (hd : decode y.2.1 pc = .ok (.ifCond .eq off, 3)) (ht : (pc : Int) + off = (tgt : Int)) (h1 : ir a) (hn : pc + 3 = pc') (kt : a = 0 → WP K d y kc ks tgt L st G Q) (kf : ¬ (a = 0) → WP K d y kc ks pc' L st G Q) : WP K d y kc ks pc L ((0, a) :: st) G Q := by
  subst hn
  intro p e s m args below meth c D cA ros fm A n0 ad0 QW ad H locs ls C hR hS hn0 ha hl
  obtain ⟨⟨hx, hb, hml, hr, hlk, hown, hmn, hts, hnw⟩, hK, hSW, hA, hRC⟩ := id C
  exact lv_if_eq hx hb (x := Int32.ofInt a) hd ht (fun q => kt ((i_eq h1 ir0).mp q) p e s m args below meth c D cA ros fm A n0 ad0 QW ad H locs ls C hR hS hn0 ha hl) (fun q => kf (fun z => q ((i_eq h1 ir0).mpr z)) p e s m args below meth c D cA ros fm A n0 ad0 QW ad H locs ls C hR hS hn0 ha hl)
theorem R_if_lt {K : Launch × Nat × (Nat → Int)} {d : Nat} {y : mth} {kc ks pc pc' : Nat} {L st : List av} {G : hp} {Q : hp → av → Prop} {a off : Int} {tgt : Nat} (hd : decode y.2.1 pc = .ok (.ifCond .lt off, 3)) (ht : (pc : Int) + off = (tgt : Int)) (h1 : ir a) (hn : pc + 3 = pc') (kt : a < 0 → WP K d y kc ks tgt L st G Q) (kf : ¬ (a < 0) → WP K d y kc ks pc' L st G Q) : WP K d y kc ks pc L ((0, a) :: st) G Q := by
  subst hn
  intro p e s m args below meth c D cA ros fm A n0 ad0 QW ad H locs ls C hR hS hn0 ha hl
  obtain ⟨⟨hx, hb, hml, hr, hlk, hown, hmn, hts, hnw⟩, hK, hSW, hA, hRC⟩ := id C
  exact lv_if_lt hx hb (x := Int32.ofInt a) hd ht (fun q => kt ((i_lt h1 ir0).mp q) p e s m args below meth c D cA ros fm A n0 ad0 QW ad H locs ls C hR hS hn0 ha hl) (fun q => kf (fun z => q ((i_lt h1 ir0).mpr z)) p e s m args below meth c D cA ros fm A n0 ad0 QW ad H locs ls C hR hS hn0 ha hl)
theorem R_if_ge {K : Launch × Nat × (Nat → Int)} {d : Nat} {y : mth} {kc ks pc pc' : Nat} {L st : List av} {G : hp} {Q : hp → av → Prop} {a off : Int} {tgt : Nat} (hd : decode y.2.1 pc = .ok (.ifCond .ge off, 3)) (ht : (pc : Int) + off = (tgt : Int)) (h1 : ir a) (hn : pc + 3 = pc') (kt : 0 ≤ a → WP K d y kc ks tgt L st G Q) (kf : ¬ (0 ≤ a) → WP K d y kc ks pc' L st G Q) : WP K d y kc ks pc L ((0, a) :: st) G Q := by
  subst hn
  intro p e s m args below meth c D cA ros fm A n0 ad0 QW ad H locs ls C hR hS hn0 ha hl
  obtain ⟨⟨hx, hb, hml, hr, hlk, hown, hmn, hts, hnw⟩, hK, hSW, hA, hRC⟩ := id C
  exact lv_if_ge hx hb (x := Int32.ofInt a) hd ht (fun q => kt ((i_le ir0 h1).mp q) p e s m args below meth c D cA ros fm A n0 ad0 QW ad H locs ls C hR hS hn0 ha hl) (fun q => kf (fun z => q ((i_le ir0 h1).mpr z)) p e s m args below meth c D cA ros fm A n0 ad0 QW ad H locs ls C hR hS hn0 ha hl)
theorem R_if_gt {K : Launch × Nat × (Nat → Int)} {d : Nat} {y : mth} {kc ks pc pc' : Nat} {L st : List av} {G : hp} {Q : hp → av → Prop} {a off : Int} {tgt : Nat} (hd : decode y.2.1 pc = .ok (.ifCond .gt off, 3)) (ht : (pc : Int) + off = (tgt : Int)) (h1 : ir a) (hn : pc + 3 = pc') (kt : 0 < a → WP K d y kc ks tgt L st G Q) (kf : ¬ (0 < a) → WP K d y kc ks pc' L st G Q) : WP K d y kc ks pc L ((0, a) :: st) G Q := by
  subst hn
  intro p e s m args below meth c D cA ros fm A n0 ad0 QW ad H locs ls C hR hS hn0 ha hl
  obtain ⟨⟨hx, hb, hml, hr, hlk, hown, hmn, hts, hnw⟩, hK, hSW, hA, hRC⟩ := id C
  exact lv_if_gt hx hb (x := Int32.ofInt a) hd ht (fun q => kt ((i_lt ir0 h1).mp q) p e s m args below meth c D cA ros fm A n0 ad0 QW ad H locs ls C hR hS hn0 ha hl) (fun q => kf (fun z => q ((i_lt ir0 h1).mpr z)) p e s m args below meth c D cA ros fm A n0 ad0 QW ad H locs ls C hR hS hn0 ha hl)
theorem R_if_le {K : Launch × Nat × (Nat → Int)} {d : Nat} {y : mth} {kc ks pc pc' : Nat} {L st : List av} {G : hp} {Q : hp → av → Prop} {a off : Int} {tgt : Nat} (hd : decode y.2.1 pc = .ok (.ifCond .le off, 3)) (ht : (pc : Int) + off = (tgt : Int)) (h1 : ir a) (hn : pc + 3 = pc') (kt : a ≤ 0 → WP K d y kc ks tgt L st G Q) (kf : ¬ (a ≤ 0) → WP K d y kc ks pc' L st G Q) : WP K d y kc ks pc L ((0, a) :: st) G Q := by
  subst hn
  intro p e s m args below meth c D cA ros fm A n0 ad0 QW ad H locs ls C hR hS hn0 ha hl
  obtain ⟨⟨hx, hb, hml, hr, hlk, hown, hmn, hts, hnw⟩, hK, hSW, hA, hRC⟩ := id C
  exact lv_if_le hx hb (x := Int32.ofInt a) hd ht (fun q => kt ((i_le h1 ir0).mp q) p e s m args below meth c D cA ros fm A n0 ad0 QW ad H locs ls C hR hS hn0 ha hl) (fun q => kf (fun z => q ((i_le h1 ir0).mpr z)) p e s m args below meth c D cA ros fm A n0 ad0 QW ad H locs ls C hR hS hn0 ha hl)
theorem R_icmp_eq {K : Launch × Nat × (Nat → Int)} {d : Nat} {y : mth} {kc ks pc pc' : Nat} {L st : List av} {G : hp} {Q : hp → av → Prop} {a b off : Int} {tgt : Nat} (hd : decode y.2.1 pc = .ok (.if_icmp .eq off, 3)) (ht : (pc : Int) + off = (tgt : Int)) (h1 : ir a) (h2 : ir b) (hn : pc + 3 = pc') (kt : a = b → WP K d y kc ks tgt L st G Q) (kf : ¬ (a = b) → WP K d y kc ks pc' L st G Q) : WP K d y kc ks pc L ((0, b) :: (0, a) :: st) G Q := by
  subst hn
  intro p e s m args below meth c D cA ros fm A n0 ad0 QW ad H locs ls C hR hS hn0 ha hl
  obtain ⟨⟨hx, hb, hml, hr, hlk, hown, hmn, hts, hnw⟩, hK, hSW, hA, hRC⟩ := id C
  exact lv_icmp_eq hx hb (x := Int32.ofInt a) (y := Int32.ofInt b) hd ht (fun q => kt ((i_eq h1 h2).mp q) p e s m args below meth c D cA ros fm A n0 ad0 QW ad H locs ls C hR hS hn0 ha hl) (fun q => kf (fun z => q ((i_eq h1 h2).mpr z)) p e s m args below meth c D cA ros fm A n0 ad0 QW ad H locs ls C hR hS hn0 ha hl)
theorem R_icmp_lt {K : Launch × Nat × (Nat → Int)} {d : Nat} {y : mth} {kc ks pc pc' : Nat} {L st : List av} {G : hp} {Q : hp → av → Prop} {a b off : Int} {tgt : Nat} (hd : decode y.2.1 pc = .ok (.if_icmp .lt off, 3)) (ht : (pc : Int) + off = (tgt : Int)) (h1 : ir a) (h2 : ir b) (hn : pc + 3 = pc') (kt : a < b → WP K d y kc ks tgt L st G Q) (kf : ¬ (a < b) → WP K d y kc ks pc' L st G Q) : WP K d y kc ks pc L ((0, b) :: (0, a) :: st) G Q := by
  subst hn
  intro p e s m args below meth c D cA ros fm A n0 ad0 QW ad H locs ls C hR hS hn0 ha hl
  obtain ⟨⟨hx, hb, hml, hr, hlk, hown, hmn, hts, hnw⟩, hK, hSW, hA, hRC⟩ := id C
  exact lv_icmp_lt hx hb (x := Int32.ofInt a) (y := Int32.ofInt b) hd ht (fun q => kt ((i_lt h1 h2).mp q) p e s m args below meth c D cA ros fm A n0 ad0 QW ad H locs ls C hR hS hn0 ha hl) (fun q => kf (fun z => q ((i_lt h1 h2).mpr z)) p e s m args below meth c D cA ros fm A n0 ad0 QW ad H locs ls C hR hS hn0 ha hl)
theorem R_icmp_ge {K : Launch × Nat × (Nat → Int)} {d : Nat} {y : mth} {kc ks pc pc' : Nat} {L st : List av} {G : hp} {Q : hp → av → Prop} {a b off : Int} {tgt : Nat} (hd : decode y.2.1 pc = .ok (.if_icmp .ge off, 3)) (ht : (pc : Int) + off = (tgt : Int)) (h1 : ir a) (h2 : ir b) (hn : pc + 3 = pc') (kt : b ≤ a → WP K d y kc ks tgt L st G Q) (kf : ¬ (b ≤ a) → WP K d y kc ks pc' L st G Q) : WP K d y kc ks pc L ((0, b) :: (0, a) :: st) G Q := by
  subst hn
  intro p e s m args below meth c D cA ros fm A n0 ad0 QW ad H locs ls C hR hS hn0 ha hl
  obtain ⟨⟨hx, hb, hml, hr, hlk, hown, hmn, hts, hnw⟩, hK, hSW, hA, hRC⟩ := id C
  exact lv_icmp_ge hx hb (x := Int32.ofInt a) (y := Int32.ofInt b) hd ht (fun q => kt ((i_le h2 h1).mp q) p e s m args below meth c D cA ros fm A n0 ad0 QW ad H locs ls C hR hS hn0 ha hl) (fun q => kf (fun z => q ((i_le h2 h1).mpr z)) p e s m args below meth c D cA ros fm A n0 ad0 QW ad H locs ls C hR hS hn0 ha hl)
theorem R_icmp_gt {K : Launch × Nat × (Nat → Int)} {d : Nat} {y : mth} {kc ks pc pc' : Nat} {L st : List av} {G : hp} {Q : hp → av → Prop} {a b off : Int} {tgt : Nat} (hd : decode y.2.1 pc = .ok (.if_icmp .gt off, 3)) (ht : (pc : Int) + off = (tgt : Int)) (h1 : ir a) (h2 : ir b) (hn : pc + 3 = pc') (kt : b < a → WP K d y kc ks tgt L st G Q) (kf : ¬ (b < a) → WP K d y kc ks pc' L st G Q) : WP K d y kc ks pc L ((0, b) :: (0, a) :: st) G Q := by
  subst hn
  intro p e s m args below meth c D cA ros fm A n0 ad0 QW ad H locs ls C hR hS hn0 ha hl
  obtain ⟨⟨hx, hb, hml, hr, hlk, hown, hmn, hts, hnw⟩, hK, hSW, hA, hRC⟩ := id C
  exact lv_icmp_gt hx hb (x := Int32.ofInt a) (y := Int32.ofInt b) hd ht (fun q => kt ((i_lt h2 h1).mp q) p e s m args below meth c D cA ros fm A n0 ad0 QW ad H locs ls C hR hS hn0 ha hl) (fun q => kf (fun z => q ((i_lt h2 h1).mpr z)) p e s m args below meth c D cA ros fm A n0 ad0 QW ad H locs ls C hR hS hn0 ha hl)
theorem R_icmp_le {K : Launch × Nat × (Nat → Int)} {d : Nat} {y : mth} {kc ks pc pc' : Nat} {L st : List av} {G : hp} {Q : hp → av → Prop} {a b off : Int} {tgt : Nat} (hd : decode y.2.1 pc = .ok (.if_icmp .le off, 3)) (ht : (pc : Int) + off = (tgt : Int)) (h1 : ir a) (h2 : ir b) (hn : pc + 3 = pc') (kt : a ≤ b → WP K d y kc ks tgt L st G Q) (kf : ¬ (a ≤ b) → WP K d y kc ks pc' L st G Q) : WP K d y kc ks pc L ((0, b) :: (0, a) :: st) G Q := by
  subst hn
  intro p e s m args below meth c D cA ros fm A n0 ad0 QW ad H locs ls C hR hS hn0 ha hl
  obtain ⟨⟨hx, hb, hml, hr, hlk, hown, hmn, hts, hnw⟩, hK, hSW, hA, hRC⟩ := id C
  exact lv_icmp_le hx hb (x := Int32.ofInt a) (y := Int32.ofInt b) hd ht (fun q => kt ((i_le h1 h2).mp q) p e s m args below meth c D cA ros fm A n0 ad0 QW ad H locs ls C hR hS hn0 ha hl) (fun q => kf (fun z => q ((i_le h1 h2).mpr z)) p e s m args below meth c D cA ros fm A n0 ad0 QW ad H locs ls C hR hS hn0 ha hl)
theorem R_if_ne {K : Launch × Nat × (Nat → Int)} {d : Nat} {y : mth} {kc ks pc pc' : Nat} {L st : List av} {G : hp} {Q : hp → av → Prop} {a off : Int} {tgt : Nat} (hd : decode y.2.1 pc = .ok (.ifCond .ne off, 3)) (ht : (pc : Int) + off = (tgt : Int)) (h1 : ir a) (hn : pc + 3 = pc') (kt : ¬ a = 0 → WP K d y kc ks tgt L st G Q) (kf : a = 0 → WP K d y kc ks pc' L st G Q) : WP K d y kc ks pc L ((0, a) :: st) G Q := by
  subst hn
  intro p e s m args below meth c D cA ros fm A n0 ad0 QW ad H locs ls C hR hS hn0 ha hl
  obtain ⟨⟨hx, hb, hml, hr, hlk, hown, hmn, hts, hnw⟩, hK, hSW, hA, hRC⟩ := id C
  exact lv_if_ne hx hb (x := Int32.ofInt a) hd ht (fun q => kt (fun z => q ((i_eq h1 ir0).mpr z)) p e s m args below meth c D cA ros fm A n0 ad0 QW ad H locs ls C hR hS hn0 ha hl) (fun q => kf ((i_eq h1 ir0).mp q) p e s m args below meth c D cA ros fm A n0 ad0 QW ad H locs ls C hR hS hn0 ha hl)
theorem R_icmp_ne {K : Launch × Nat × (Nat → Int)} {d : Nat} {y : mth} {kc ks pc pc' : Nat} {L st : List av} {G : hp} {Q : hp → av → Prop} {a b off : Int} {tgt : Nat} (hd : decode y.2.1 pc = .ok (.if_icmp .ne off, 3)) (ht : (pc : Int) + off = (tgt : Int)) (h1 : ir a) (h2 : ir b) (hn : pc + 3 = pc') (kt : ¬ a = b → WP K d y kc ks tgt L st G Q) (kf : a = b → WP K d y kc ks pc' L st G Q) : WP K d y kc ks pc L ((0, b) :: (0, a) :: st) G Q := by
  subst hn
  intro p e s m args below meth c D cA ros fm A n0 ad0 QW ad H locs ls C hR hS hn0 ha hl
  obtain ⟨⟨hx, hb, hml, hr, hlk, hown, hmn, hts, hnw⟩, hK, hSW, hA, hRC⟩ := id C
  exact lv_icmp_ne hx hb (x := Int32.ofInt a) (y := Int32.ofInt b) hd ht (fun q => kt (fun z => q ((i_eq h1 h2).mpr z)) p e s m args below meth c D cA ros fm A n0 ad0 QW ad H locs ls C hR hS hn0 ha hl) (fun q => kf ((i_eq h1 h2).mp q) p e s m args below meth c D cA ros fm A n0 ad0 QW ad H locs ls C hR hS hn0 ha hl)
theorem R_icmp_eqS {K : Launch × Nat × (Nat → Int)} {d : Nat} {y : mth} {kc ks pc : Nat} {L st : List av} {G : hp} {Q : hp → av → Prop} {a b off : Int} {tgt : Nat} (hd : decode y.2.1 pc = .ok (.if_icmp .eq off, 3)) (ht : (pc : Int) + off = (tgt : Int)) (he : a = b) (kt : WP K d y kc ks tgt L st G Q) : WP K d y kc ks pc L ((0, b) :: (0, a) :: st) G Q := by
  intro p e s m args below meth c D cA ros fm A n0 ad0 QW ad H locs ls C hR hS hn0 ha hl
  obtain ⟨⟨hx, hb, hml, hr, hlk, hown, hmn, hts, hnw⟩, hK, hSW, hA, hRC⟩ := id C
  subst he
  exact lv_icmp_eq hx hb (x := Int32.ofInt a) (y := Int32.ofInt a) hd ht (fun q => kt p e s m args below meth c D cA ros fm A n0 ad0 QW ad H locs ls C hR hS hn0 ha hl) (fun q => absurd rfl q)
theorem R_goto {K : Launch × Nat × (Nat → Int)} {d : Nat} {y : mth} {kc ks pc : Nat} {L st : List av} {G : hp} {Q : hp → av → Prop} {off : Int} {tgt : Nat} (hd : decode y.2.1 pc = .ok (.goto off, 3)) (ht : (pc : Int) + off = (tgt : Int)) (k : WP K d y kc ks tgt L st G Q) : WP K d y kc ks pc L st G Q := by
  intro p e s m args below meth c D cA ros fm A n0 ad0 QW ad H locs ls C hR hS hn0 ha hl
  obtain ⟨⟨hx, hb, hml, hr, hlk, hown, hmn, hts, hnw⟩, hK, hSW, hA, hRC⟩ := id C
  exact lv_goto hx hb hd ht (k p e s m args below meth c D cA ros fm A n0 ad0 QW ad H locs ls C hR hS hn0 ha hl)
theorem R_tableAt {K : Launch × Nat × (Nat → Int)} {d : Nat} {y : mth} {kc ks pc : Nat} {L st : List av} {G : hp} {Q : hp → av → Prop} {dflt lo hi : Int} {offs : Array Int} {len : Nat} {a : Int} {off : Int} {tgt : Nat} (key : Int) (he : a = key) (hd : decode y.2.1 pc = .ok (.tableswitch dflt lo hi offs, len)) (h1 : ir key) (h2 : lo ≤ key ∧ key ≤ hi) (ho : offs[(key - lo).toNat]? = some off) (ht : (pc : Int) + off = (tgt : Int)) (k : WP K d y kc ks tgt L st G Q) : WP K d y kc ks pc L ((0, a) :: st) G Q := by
  subst he
  intro p e s m args below meth c D cA ros fm A n0 ad0 QW ad H locs ls C hR hS hn0 ha hl
  obtain ⟨⟨hx, hb, hml, hr, hlk, hown, hmn, hts, hnw⟩, hK, hSW, hA, hRC⟩ := id C
  exact lv_tableIn hx hb (x := Int32.ofInt a) hd (by rw [i_to h1]; omega) (by rw [i_to h1]; omega) (by rw [i_to h1]; exact ho) ht (k p e s m args below meth c D cA ros fm A n0 ad0 QW ad H locs ls C hR hS hn0 ha hl)
theorem R_tableOut {K : Launch × Nat × (Nat → Int)} {d : Nat} {y : mth} {kc ks pc : Nat} {L st : List av} {G : hp} {Q : hp → av → Prop} {dflt lo hi : Int} {offs : Array Int} {len : Nat} {a : Int} {tgt : Nat} (hd : decode y.2.1 pc = .ok (.tableswitch dflt lo hi offs, len)) (h1 : ir a) (h2 : a < lo ∨ hi < a) (ht : (pc : Int) + dflt = (tgt : Int)) (k : WP K d y kc ks tgt L st G Q) : WP K d y kc ks pc L ((0, a) :: st) G Q := by
  intro p e s m args below meth c D cA ros fm A n0 ad0 QW ad H locs ls C hR hS hn0 ha hl
  obtain ⟨⟨hx, hb, hml, hr, hlk, hown, hmn, hts, hnw⟩, hK, hSW, hA, hRC⟩ := id C
  exact lv_tableOut hx hb (x := Int32.ofInt a) hd (by rw [i_to h1]; exact h2) ht (k p e s m args below meth c D cA ros fm A n0 ad0 QW ad H locs ls C hR hS hn0 ha hl)
theorem R_look {K : Launch × Nat × (Nat → Int)} {d : Nat} {y : mth} {kc ks pc : Nat} {L st : List av} {G : hp} {Q : hp → av → Prop} {dflt : Int} {ps : Array (Int × Int)} {len : Nat} {a off : Int} {tgt : Nat} (hd : decode y.2.1 pc = .ok (.lookupswitch dflt ps, len)) (hp : (ps.toList.zip (ps.toList.drop 1)).all (fun (a, next) => a.1 < next.1) = true) (h1 : ir a) (ho : Op.lookupswitch.offset ps.toList dflt a = off) (ht : (pc : Int) + off = (tgt : Int)) (k : WP K d y kc ks tgt L st G Q) : WP K d y kc ks pc L ((0, a) :: st) G Q := by
  intro p e s m args below meth c D cA ros fm A n0 ad0 QW ad H locs ls C hR hS hn0 ha hl
  obtain ⟨⟨hx, hb, hml, hr, hlk, hown, hmn, hts, hnw⟩, hK, hSW, hA, hRC⟩ := id C
  exact lv_lookup hx hb (x := Int32.ofInt a) hd hp (by rw [i_to h1]; exact ho) ht (k p e s m args below meth c D cA ros fm A n0 ad0 QW ad H locs ls C hR hS hn0 ha hl)
theorem R_iret {K : Launch × Nat × (Nat → Int)} {d : Nat} {y : mth} {kc ks pc : Nat} {L : List av} {G : hp} {Q : hp → av → Prop} {a : Int} (hd : decode y.2.1 pc = .ok (.ireturn, 1)) (hr0 : y.2.2.2.1 = some .int) (hc : kc ≤ y.2.2.2.2.1) (hs : ks ≤ y.2.2.2.2.2) (k : Q G (0, a)) : WP K d y kc ks pc L [(0, a)] G Q := by
  intro p e s m args below meth c D cA ros fm A n0 ad0 QW ad H locs ls C hR hS hn0 ha hl
  obtain ⟨⟨hx, hb, hml, hr, hlk, hown, hmn, hts, hnw⟩, hK, hSW, hA, hRC⟩ := id C
  refine W.widen hc hs ?_
  exact hRC G (0, a) ad H locs ls pc k hR hS hn0 ha (Or.inl ⟨.int, hr0, rfl, rfl, hd⟩)
theorem R_zret {K : Launch × Nat × (Nat → Int)} {d : Nat} {y : mth} {kc ks pc : Nat} {L : List av} {G : hp} {Q : hp → av → Prop} {a : Int} (hd : decode y.2.1 pc = .ok (.ireturn, 1)) {ty : FieldType} (hr0 : y.2.2.2.1 = some ty) (hnr : narrow ty (.int (Int32.ofInt a)) = .int (Int32.ofInt a)) (hc : kc ≤ y.2.2.2.2.1) (hs : ks ≤ y.2.2.2.2.2) (k : Q G (0, a)) : WP K d y kc ks pc L [(0, a)] G Q := by
  intro p e s m args below meth c D cA ros fm A n0 ad0 QW ad H locs ls C hR hS hn0 ha hl
  obtain ⟨⟨hx, hb, hml, hr, hlk, hown, hmn, hts, hnw⟩, hK, hSW, hA, hRC⟩ := id C
  refine W.widen hc hs ?_
  exact hRC G (0, a) ad H locs ls pc k hR hS hn0 ha (Or.inl ⟨ty, hr0, rfl, hnr, hd⟩)
theorem R_lret {K : Launch × Nat × (Nat → Int)} {d : Nat} {y : mth} {kc ks pc : Nat} {L : List av} {G : hp} {Q : hp → av → Prop} {a : Int} (hd : decode y.2.1 pc = .ok (.lreturn, 1)) (hr0 : y.2.2.2.1 = some .long) (hc : kc ≤ y.2.2.2.2.1) (hs : ks ≤ y.2.2.2.2.2) (k : Q G (1, a)) : WP K d y kc ks pc L [(1, a)] G Q := by
  intro p e s m args below meth c D cA ros fm A n0 ad0 QW ad H locs ls C hR hS hn0 ha hl
  obtain ⟨⟨hx, hb, hml, hr, hlk, hown, hmn, hts, hnw⟩, hK, hSW, hA, hRC⟩ := id C
  refine W.widen hc hs ?_
  exact hRC G (1, a) ad H locs ls pc k hR hS hn0 ha (Or.inr (Or.inl ⟨hr0, rfl, hd⟩))
theorem R_ret {K : Launch × Nat × (Nat → Int)} {d : Nat} {y : mth} {kc ks pc : Nat} {L : List av} {G : hp} {Q : hp → av → Prop} (hd : decode y.2.1 pc = .ok (.return_, 1)) (hr0 : y.2.2.2.1 = none) (hc : kc ≤ y.2.2.2.2.1) (hs : ks ≤ y.2.2.2.2.2) (k : Q G (8, 0)) : WP K d y kc ks pc L [] G Q := by
  intro p e s m args below meth c D cA ros fm A n0 ad0 QW ad H locs ls C hR hS hn0 ha hl
  obtain ⟨⟨hx, hb, hml, hr, hlk, hown, hmn, hts, hnw⟩, hK, hSW, hA, hRC⟩ := id C
  refine W.widen hc hs ?_
  exact hRC G (8, 0) ad H locs ls pc k hR hS hn0 ha (Or.inr (Or.inr (Or.inl ⟨hr0, rfl, hd⟩)))
theorem R_aret3 {K : Launch × Nat × (Nat → Int)} {d : Nat} {y : mth} {kc ks pc : Nat} {L : List av} {G : hp} {Q : hp → av → Prop} {a : Int} (hd : decode y.2.1 pc = .ok (.areturn, 1)) {nm : String} (hr0 : y.2.2.2.1 = some (.object nm)) (hc : kc ≤ y.2.2.2.2.1) (hs : ks ≤ y.2.2.2.2.2) (k : Q G (3, a)) : WP K d y kc ks pc L [(3, a)] G Q := by
  intro p e s m args below meth c D cA ros fm A n0 ad0 QW ad H locs ls C hR hS hn0 ha hl
  obtain ⟨⟨hx, hb, hml, hr, hlk, hown, hmn, hts, hnw⟩, hK, hSW, hA, hRC⟩ := id C
  refine W.widen hc hs ?_
  exact hRC G (3, a) ad H locs ls pc k hR hS hn0 ha (Or.inr (Or.inr (Or.inr ⟨⟨nm, hr0⟩, rfl, hd⟩)))
