/-! CONTRACTS: the reference's houses and likes -/
/-- a token of the reference, told as the class tells it -/
def trT (x : Int) : Int := if x = -33 then -1 else if x = -38 then -2 else if x = -124 then -3 else x / 1000 * 65536 + x / 100 % 10 * 256 + x % 100
def mTk (c : ct) : Int → Int := fun j => trT (c 120 j)
theorem tr_not {x : Int} (h : trT x = -1) : x = -33 := by
  unfold trT at h
  split at h
  · assumption
  · split at h
    · omega
    · split at h <;> omega
theorem tr_ao {x : Int} (h : trT x = -2 ∨ trT x = -3) : (trT x = -2 ∧ x = -38) ∨ (trT x = -3 ∧ x = -124) := by
  unfold trT at h ⊢
  by_cases a : x = -33
  · rw [if_pos a] at h; omega
  · by_cases b : x = -38
    · rw [if_neg a, if_pos b]; exact Or.inl ⟨rfl, b⟩
    · by_cases e : x = -124
      · rw [if_neg a, if_neg b, if_pos e]; exact Or.inr ⟨rfl, e⟩
      · rw [if_neg a, if_neg b, if_neg e] at h; omega
theorem tr_tok {x : Int} (h : tokT (trT x)) : (0 ≤ x ∧ x < 6000 ∧ x / 100 % 10 < 3) ∧ ∀ F : Int → Int, soS F (trT x) = if x / 100 % 10 = 0 then (if F (x / 1000) < x % 100 then 1 else 0) else if x / 100 % 10 = 1 then (if F (x / 1000) = x % 100 then 1 else 0) else (if x % 100 < F (x / 1000) then 1 else 0) := by
  obtain ⟨f, s, k, hf, hs, hk, e⟩ := h
  have n1 : ¬ x = -33 := by intro q; subst q; simp [trT] at e; omega
  have n2 : ¬ x = -38 := by intro q; subst q; simp [trT] at e; omega
  have n3 : ¬ x = -124 := by intro q; subst q; simp [trT] at e; omega
  have e2 : trT x = x / 1000 * 65536 + x / 100 % 10 * 256 + x % 100 := by unfold trT; rw [if_neg n1, if_neg n2, if_neg n3]
  rw [e2] at e
  have r : (0 ≤ x ∧ x < 6000 ∧ x / 100 % 10 < 3) := by omega
  refine ⟨r, fun F => ?_⟩
  rw [e2]
  have a1 : (x / 1000 * 65536 + x / 100 % 10 * 256 + x % 100) / 65536 = x / 1000 := by omega
  have a2 : (x / 1000 * 65536 + x / 100 % 10 * 256 + x % 100) / 256 % 256 = x / 100 % 10 := by omega
  have a3 : (x / 1000 * 65536 + x / 100 % 10 * 256 + x % 100) % 256 = x % 100 := by omega
  unfold soS
  rw [a1, a2, a3]
def off1 (c c' : ct) (t : Int) : Prop := ∀ k, k ≠ t → ∀ j, c' k j = c k j
theorem off1.rf {c : ct} {t : Int} : off1 c c t := fun _ _ _ => rfl
theorem off1.trans {c c1 c2 : ct} {t : Int} (h1 : off1 c c1 t) (h2 : off1 c1 c2 t) : off1 c c2 t := fun k a j => (h2 k a j).trans (h1 k a j)
theorem off1.up {c : ct} {t k x : Int} : off1 c (up2 c t k x) t := fun _ a _ => up2_ne1 a
theorem MT_congr {c c' G : ct} (h : MT c G) (h0 : ∀ j, (j ≤ 4 ∨ j = 11) → c' 108 j = c 108 j) (hr : ∀ k, 109 ≤ k → k ≤ 113 → ∀ j, c' k j = c k j) : MT c' G := by
  unfold MT at h ⊢
  rw [h0 0 (by decide), h0 3 (by decide), h0 4 (by decide), h0 11 (by decide), h0 1 (by decide), h0 2 (by decide)]
  simp only [hr 109 (by decide) (by decide), hr 110 (by decide) (by decide), hr 111 (by decide) (by decide), hr 112 (by decide) (by decide), hr 113 (by decide) (by decide)]
  exact h
theorem MT_off1 {c c' G : ct} {t : Int} (h : MT c G) (ht : 113 < t) (ho : off1 c c' t) : MT c' G := MT_congr h (fun j _ => ho 108 (by omega) j) (fun k a b j => ho k (by omega) j)
/-- the pile as a list, the newest first -/
def pil (f : Int → Int) : List Int → Prop
  | [] => True
  | b :: l => f l.length = b ∧ pil f l
theorem pil_ne {f : Int → Int} {k v : Int} : ∀ {l : List Int}, (l.length : Int) ≤ k → pil f l → pil (fun j => if j = k then v else f j) l
  | [], _, _ => trivial
  | b :: l, hk, h => by
    simp only [List.length_cons] at hk
    exact ⟨by show (if _ then _ else _) = _; rw [if_neg (by omega)]; exact h.1, pil_ne (by omega) h.2⟩
theorem pil_up {c : ct} {k v : Int} {l : List Int} (hk : k = (l.length : Int)) (h : pil (c 123) l) : pil (up2 c 123 k v 123) (v :: l) := by
  have e : up2 c 123 k v 123 = fun j => if j = k then v else c 123 j := by funext j; simp [up2]
  rw [e]
  exact ⟨by show (if _ then _ else _) = _; rw [if_pos hk.symm], pil_ne (by omega) h⟩
theorem m_factOf {c G : ct} {K : SK} {d : Nat} {Q : ct → Int → Prop} {f p q : Int} (hM : MT c G) (hf : 0 ≤ f ∧ f < 6) (hp : 0 ≤ p ∧ p < G 0 10) (hq : 0 ≤ q ∧ q < G 0 10) (h : Q c (fcG G (G 0 12) p q f)) : CI K (d + 1) mX9_factOf [(2, 108), (0, f), (0, p), (0, q)] c Q := by
  have hn := hM.1
  obtain ⟨⟨a1, -, -⟩, ⟨a2, -, -⟩, -⟩ := hM.2.2.2.2.2.2 p hp.1 hp.2
  obtain ⟨⟨b1, -, -⟩, -⟩ := hM.2.2.2.2.2.2 q hq.1 hq.2
  have hy := hM.2.2.1
  unfold fcG at h
  refine e_X9_factOf f p q (s_X9_factOf_0 f p q ?_)
  rw [a1, a2, b1, hy.1]
  refine ⟨⟨by omega, by omega⟩, fun z => ?_, fun z => ?_, fun z => ⟨⟨hp.1, by omega⟩, ?_⟩, fun z => ⟨⟨hq.1, by omega⟩, ?_⟩, fun z => ⟨⟨hp.1, by omega⟩, ?_⟩, fun z => ⟨⟨by omega, by omega⟩, ?_⟩⟩
  · subst z; exact h
  · subst z; exact h
  · subst z; exact h
  · subst z; exact h
  · subst z; exact h
  · have : f = 5 := by omega
    subst this; exact h
theorem fc_ir {c G : ct} {p q f : Int} (hM : MT c G) (hp : 0 ≤ p ∧ p < G 0 10) (hq : 0 ≤ q ∧ q < G 0 10) : ir (fcG G (G 0 12) p q f) := by
  have hn := hM.1
  obtain ⟨⟨a1, _, _⟩, ⟨a2, _, _⟩, -⟩ := hM.2.2.2.2.2.2 p hp.1 hp.2
  obtain ⟨⟨b1, _, _⟩, -⟩ := hM.2.2.2.2.2.2 q hq.1 hq.2
  have hy := hM.2.2.1
  have ht := tm_r (a := G 0 12) (b := 10) hy.2.1 (by decide)
  unfold fcG
  repeat' split
  all_goals exact ⟨by omega, by omega⟩
theorem m_holds {c G : ct} {K : SK} {d : Nat} {Q : ct → Int → Prop} {k p q : Int} (hM : MT c G) (hk : 0 ≤ k ∧ k < 60) (hp : 0 ≤ p ∧ p < G 0 10) (hq : 0 ≤ q ∧ q < G 0 10) (hf : 0 ≤ c 118 k ∧ c 118 k ≤ c 119 k ∧ c 119 k ≤ 600) (hw : wfT (mTk c) (c 119 k - c 118 k).toNat (c 118 k) 0)
    (h : ∀ c', off1 c c' 123 → Q c' (topB (evL (mTk c) (fcG G (G 0 12) p q) (c 119 k - c 118 k).toNat (c 118 k) []))) : CI K (d + 2) mX9_holds [(2, 108), (0, k), (0, p), (0, q)] c Q := by
  have loop : ∀ (n : Nat) (i : Int) (l : List Int) (c1 : ct), i = c 119 k - n → 0 ≤ i → bits01 l → l.length ≤ 11 → wfT (mTk c) n i l.length → off1 c c1 123 → pil (c1 123) l → (∀ c', off1 c c' 123 → Q c' (topB (evL (mTk c) (fcG G (G 0 12) p q) n i l))) →
      WI K (d + 2) mX9_holds 11 [(2, 108), (0, k), (0, p), (0, q), (0, (l.length : Int)), (0, i), (9, 0), (9, 0), (9, 0)] [] c1 Q := by
    intro n
    induction n with
    | zero =>
      intro i l c1 hi i0 hb hl hw ho hpi hQ
      have e119 : c1 119 k = c 119 k := ho _ (by decide) _
      refine s_X9_holds_11 k p q _ i ?_
      rw [e119]
      refine ⟨hk, ⟨⟨by omega, by omega⟩, ⟨by omega, by omega⟩⟩, fun _ => ?_, fun z => absurd (by omega) z⟩
      have hlen : l.length = 1 := hw
      match l, hlen, hb, hpi, hQ with
      | [b], _, hb, hpi, hQ =>
        have hb1 := hb b List.mem_cons_self
        have e0 : c1 123 0 = b := hpi.1
        rw [e0]
        exact ⟨hb1, hQ c1 ho⟩
    | succ n ih =>
      intro i l c1 hi i0 hb hl hw ho hpi hQ
      have e119 : c1 119 k = c 119 k := ho _ (by decide) _
      have e120 : c1 120 i = c 120 i := ho _ (by decide) _
      simp only [evL] at hQ
      have hTi : mTk c i = trT (c 120 i) := rfl
      rw [hTi] at hQ
      have ou : ∀ j v, off1 c (up2 c1 123 j v) 123 := fun j v => ho.trans off1.up
      refine s_X9_holds_11 k p q _ i ?_
      rw [e119, e120]
      refine ⟨hk, ⟨⟨by omega, by omega⟩, ⟨by omega, by omega⟩⟩, fun z => absurd z (by omega), fun _ => ⟨⟨by omega, by omega⟩, ?_⟩⟩
      rcases hw with ⟨hx, hd, hw⟩ | ⟨hx, hd, hw⟩ | ⟨hx, hd, hw⟩
      · rw [hx] at hTi
        rw [← hTi] at hQ
        rw [tr_not hTi.symm]
        refine ⟨fun _ => ?_, fun z => absurd rfl z⟩
        match l, hd, hb, hl, hw, hpi, hQ with
        | b :: l, _, hb, hl, hw, hpi, hQ =>
          have hb1 := hb b List.mem_cons_self
          simp only [List.length_cons] at hl
          have ei : (((b :: l).length : Nat) : Int) - 1 = (l.length : Int) := by simp
          have hbn : ∀ z, (z = 0 ∨ z = 1) → bits01 (z :: l) := fun z hz x hxm => by
            rcases List.mem_cons.mp hxm with e | hxm
            · subst e; exact hz
            · exact hb x (List.mem_cons_of_mem _ hxm)
          rw [ei, hpi.1]
          refine ⟨⟨by omega, by omega⟩, fun z => ⟨⟨by omega, by omega⟩, fun c8 h8 => ?_⟩, fun z => ⟨⟨by omega, by omega⟩, ⟨by omega, by omega⟩, fun c8 h8 => ?_⟩⟩
          · subst h8
            refine ih (i + 1) (1 :: l) _ (by omega) (by omega) (hbn 1 (Or.inr rfl)) (by simpa using hl) (by simpa using hw) (ou _ _) (pil_up rfl hpi.2) ?_
            simpa [stepL, z] using hQ
          · subst h8
            have z1 : b = 1 := by omega
            refine ih (i + 1) (0 :: l) _ (by omega) (by omega) (hbn 0 (Or.inl rfl)) (by simpa using hl) (by simpa using hw) (ou _ _) (pil_up rfl hpi.2) ?_
            simpa [stepL, z1] using hQ
      · rw [hTi] at hx
        match l, hd, hb, hl, hw, hpi, hQ with
        | b :: a :: l, _, hb, hl, hw, hpi, hQ =>
          have hb1 := hb b List.mem_cons_self
          have hb2 := hb a (List.mem_cons_of_mem _ List.mem_cons_self)
          simp only [List.length_cons] at hl
          have hbl : ∀ z, (z = 0 ∨ z = 1) → bits01 (z :: l) := fun z hz x hxm => by
            rcases List.mem_cons.mp hxm with e | hxm
            · subst e; exact hz
            · exact hb x (List.mem_cons_of_mem _ (List.mem_cons_of_mem _ hxm))
          have e1 : (((b :: a :: l).length : Nat) : Int) + (-1) = ((a :: l).length : Int) := by simp; omega
          have e2 : (((a :: l).length : Nat) : Int) - 1 = (l.length : Int) := by simp
          have l1 : (((a :: l).length : Nat) : Int) = (l.length : Int) + 1 := by simp
          have hw' : wfT (mTk c) n (i + 1) (l.length + 1) := by simpa using hw
          have nx : ∀ v, (v = 0 ∨ v = 1) → stepL (fcG G (G 0 12) p q) (trT (c 120 i)) (b :: a :: l) = v :: l → WI K (d + 2) mX9_holds 11 [(2, 108), (0, k), (0, p), (0, q), (0, ((a :: l).length : Int)), (0, i + 1), (9, 0), (9, 0), (9, 0)] [] (up2 c1 123 (l.length : Int) v) Q := fun v hv hst => by
            refine ih (i + 1) (v :: l) _ (by omega) (by omega) (hbl v hv) (by simp; omega) hw' (ou _ _) (pil_up rfl hpi.2.2) ?_
            rw [hst] at hQ; exact hQ
          rw [e1, e2, hpi.1, hpi.2.1]
          have ia : ir a := ir_01 hb2
          have ib : ir b := ir_01 hb1
          rcases tr_ao hx with ⟨t1, t2⟩ | ⟨t1, t2⟩
          · rw [t1] at nx
            rw [t2]
            refine ⟨fun z => absurd z (by decide), fun _ => ⟨⟨by decide, by decide⟩, ⟨by decide, by decide⟩, fun z => absurd z (by decide), fun _ => ⟨fun _ => ⟨⟨by omega, by omega⟩, fun z => ⟨⟨by omega, by omega⟩, fun c8 h8 => ?_⟩, fun z => ⟨ia, ⟨by omega, by omega⟩, fun z2 => ⟨⟨by omega, by omega⟩, fun c8 h8 => ?_⟩, fun z2 => ⟨ib, ⟨by omega, by omega⟩, fun c8 h8 => ?_⟩⟩⟩, fun z => absurd rfl z⟩⟩⟩
            · subst h8; exact nx 0 (Or.inl rfl) (by simp [stepL, z])
            · subst h8; exact nx 0 (Or.inl rfl) (by simp [stepL, z2])
            · subst h8; exact nx 1 (Or.inr rfl) (by have : a = 1 := by omega
                                                    have : b = 1 := by omega
                                                    simp [stepL, *])
          · rw [t1] at nx
            rw [t2]
            refine ⟨fun z => absurd z (by decide), fun _ => ⟨⟨by decide, by decide⟩, ⟨by decide, by decide⟩, fun z => absurd z (by decide), fun _ => ⟨fun z => absurd z (by decide), fun _ => ⟨⟨by decide, by decide⟩, ⟨by omega, by omega⟩, fun z => ⟨⟨by omega, by omega⟩, fun z2 => ⟨⟨by omega, by omega⟩, fun c8 h8 => ?_⟩, fun z2 => ⟨ib, ⟨by omega, by omega⟩, fun c8 h8 => ?_⟩⟩, fun z => ⟨ia, ⟨by omega, by omega⟩, fun c8 h8 => ?_⟩⟩⟩⟩⟩
            · subst h8; exact nx 0 (Or.inl rfl) (by simp [stepL, z, z2])
            · subst h8; exact nx 1 (Or.inr rfl) (by have : b = 1 := by omega
                                                    simp [stepL, *])
            · subst h8; exact nx 1 (Or.inr rfl) (by have : a = 1 := by omega
                                                    simp [stepL, *])
      · rw [hTi] at hx
        obtain ⟨⟨x0, x1, x2⟩, hso⟩ := tr_tok hx
        have tp := tokT_pos hx
        have nx : ∀ c2 v, c2 = up2 c1 123 (l.length : Int) v → soS (fcG G (G 0 12) p q) (trT (c 120 i)) = v → (v = 0 ∨ v = 1) → WI K (d + 2) mX9_holds 11 [(2, 108), (0, k), (0, p), (0, q), (0, (l.length : Int) + 1), (0, i + 1), (9, 0), (9, 0), (9, 0)] [] c2 Q := fun c2 v e hv h01 => by
          subst e
          refine ih (i + 1) (v :: l) _ (by omega) (by omega) (fun x hxm => ?_) (by simp; omega) (by simpa using hw) (ou _ _) (pil_up rfl hpi) ?_
          · rcases List.mem_cons.mp hxm with e | hxm
            · subst e; exact h01
            · exact hb x hxm
          · have st : stepL (fcG G (G 0 12) p q) (trT (c 120 i)) l = v :: l := by
              unfold stepL
              rw [if_neg (by omega), if_neg (by omega), if_neg (by omega), hv]
            rw [st] at hQ; exact hQ
        rw [hso] at nx
        generalize c 120 i = x at *
        have t1 : Int.tdiv x 1000 = x / 1000 := Int.tdiv_eq_ediv_of_nonneg x0
        have t2 : Int.tdiv x 100 = x / 100 := Int.tdiv_eq_ediv_of_nonneg x0
        have t3 : Int.tmod (x / 100) 10 = x / 100 % 10 := Int.tmod_eq_emod_of_nonneg (by omega)
        have t4 : Int.tmod x 100 = x % 100 := Int.tmod_eq_emod_of_nonneg x0
        have irx : ir x := ⟨by omega, by omega⟩
        have hl10 : (l.length : Int) ≤ 10 := by omega
        have ifc := fc_ir (f := x / 1000) hM hp hq
        rw [t1, t2, t3, t4]
        refine ⟨fun z => absurd z (by omega), fun _ => ⟨irx, irx, fun _ => ⟨irx, m_factOf (MT_off1 hM (by decide) ho) ⟨by omega, by omega⟩ hp hq ⟨irx, ⟨by omega, by omega⟩, fun w => ⟨irx, ⟨ifc, ⟨by omega, by omega⟩⟩, fun z => ⟨⟨by omega, by omega⟩, fun c8 h8 => ?_⟩, fun z => ⟨⟨by omega, by omega⟩, fun c8 h8 => ?_⟩⟩, fun w => ⟨⟨by omega, by omega⟩, fun w2 => ⟨irx, fun z => ⟨⟨by omega, by omega⟩, fun c8 h8 => ?_⟩, fun z => ⟨⟨ifc, ⟨by omega, by omega⟩⟩, ⟨by omega, by omega⟩, fun c8 h8 => ?_⟩⟩, fun w2 => ⟨⟨by omega, by omega⟩, irx, ⟨ifc, ⟨by omega, by omega⟩⟩, fun z => ⟨⟨by omega, by omega⟩, fun c8 h8 => ?_⟩, fun z => ⟨⟨by omega, by omega⟩, fun c8 h8 => ?_⟩⟩⟩⟩⟩, fun z => absurd x0 z⟩⟩
        · exact nx c8 0 h8 (by rw [if_pos w, if_neg (by omega)]) (Or.inl rfl)
        · exact nx c8 1 h8 (by rw [if_pos w, if_pos (by omega)]) (Or.inr rfl)
        · exact nx c8 1 h8 (by rw [if_neg w, if_pos w2, if_pos z]) (Or.inr rfl)
        · exact nx c8 0 h8 (by rw [if_neg w, if_pos w2, if_neg z]) (Or.inl rfl)
        · exact nx c8 0 h8 (by rw [if_neg w, if_neg w2, if_neg (by omega)]) (Or.inl rfl)
        · exact nx c8 1 h8 (by rw [if_neg w, if_neg w2, if_pos (by omega)]) (Or.inr rfl)
  refine e_X9_holds k p q (s_X9_holds_0 k p q ⟨hk, ?_⟩)
  exact loop (c 119 k - c 118 k).toNat (c 118 k) [] c (by omega) (by omega) (fun _ hx => by simp at hx) (by simp) hw off1.rf trivial h
