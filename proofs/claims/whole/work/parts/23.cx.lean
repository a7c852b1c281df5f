/-! CONTRACTS: copies, moves, the pot's way, at a table of the class -/
theorem upRow_self {c : ct} {k : Int} {f : Int → Int} {j : Int} : upRow c k f k j = f j := by simp [upRow]
theorem upRow_ne {c : ct} {a k : Int} {f : Int → Int} {j : Int} (h : a ≠ k) : upRow c k f a j = c a j := by simp [upRow, h]
theorem up2_self {c : ct} {k j x : Int} : up2 c k j x k j = x := by simp [up2]
theorem up2_ne1 {c : ct} {a k j x b : Int} (h : a ≠ k) : up2 c k j x a b = c a b := by simp [up2, h]
theorem up2_ne2 {c : ct} {a k j x b : Int} (h : b ≠ j) : up2 c k j x a b = c a b := by simp [up2, h]
theorem cpy00 {f g : Int → Int} {n i : Int} (h : 0 ≤ i ∧ i < n) : cpyI f g 0 0 n i = f i := by
  unfold cpyI
  rw [if_pos (by omega)]
  congr 1
  omega
/-- table t now is as table a was -/
def COPY (c c' : ct) (t a : Int) : Prop :=
  (∀ k, k ≠ t → (k < t + 1 ∨ t + 9 < k) → ∀ j, c' k j = c k j) ∧ (∀ j, j < 10 ∨ 13 < j → c' t j = c t j) ∧
  (c' t 10 = c a 10 ∧ c' t 11 = c a 11 ∧ c' t 12 = c a 12 ∧ c' t 13 = c a 13) ∧
  (∀ i, 0 ≤ i → i < 6 → c' (t + 1) i = c (a + 1) i ∧ c' (t + 2) i = c (a + 2) i ∧ c' (t + 3) i = c (a + 3) i ∧ c' (t + 4) i = c (a + 4) i ∧ c' (t + 5) i = c (a + 5) i ∧ c' (t + 6) i = c (a + 6) i ∧ c' (t + 8) i = c (a + 8) i) ∧
  (∀ i, 0 ≤ i → i < 24 → c' (t + 7) i = c (a + 7) i) ∧ ∀ i, 0 ≤ i → i < 36 → c' (t + 9) i = c (a + 9) i
def szR (r : Int) : Int := if r = 7 then 24 else if r = 9 then 36 else 6
def CPm (c c' : ct) (t a m : Int) : Prop := (∀ k, k < t + 1 ∨ t + m < k → ∀ j, c' k j = c k j) ∧ ∀ r, 1 ≤ r → r ≤ m → ∀ i, 0 ≤ i → i < szR r → c' (t + r) i = c (a + r) i
theorem CPm_step {c c1 c2 : ct} {t a m m' n k b : Int} (far : t + 11 ≤ a ∨ a + 11 ≤ t) (hm : 0 ≤ m ∧ m < 9) (hC : CPm c c1 t a m) (hm' : m' = m + 1) (hk : k = t + m') (hb : b = a + m') (hn : n = szR m') (e : c2 = upRow c1 k (cpyI (c1 b) (c1 k) 0 0 n)) : CPm c c2 t a m' := by
  subst e hk hb hm' hn
  refine ⟨fun k g j => ?_, fun r g1 g2 i g3 g4 => ?_⟩
  · rw [upRow_ne (by omega)]
    exact hC.1 k (by omega) j
  · by_cases z : r = m + 1
    · subst z
      rw [upRow_self, cpy00 ⟨g3, g4⟩]
      exact hC.1 _ (by omega) i
    · rw [upRow_ne (by omega)]
      exact hC.2 r g1 (by omega) i g3 g4
theorem k_X6_copyFrom {K : SK} {d : Nat} {c : ct} {Q : ct → Prop} {t a : Int} (ht : isTab t) (ha : isTab a) (hne : t ≠ a) (hT : TR c a) (h : ∀ c', COPY c c' t a → Q c') : CV K (d + 1) mX6_copyFrom [(2, t), (2, a)] c Q := by
  have far : t + 11 ≤ a ∨ a + 11 ≤ t := by unfold isTab at ht ha; omega
  have h5 := hT.2.2.2.2.1
  refine e_X6_copyFrom t ht a ha (s_X6_copyFrom_0 t ht a ha ?_)
  have i0 : CPm c c t a 0 := ⟨fun _ _ _ => rfl, fun r g1 g2 => by omega⟩
  intro c1 e1
  have i1 := CPm_step far (by omega) i0 (m' := 1) rfl rfl rfl (by decide) e1
  clear e1
  intro c2 e2
  have i2 := CPm_step far (by omega) i1 (m' := 2) rfl rfl rfl (by decide) e2
  clear e2 i1
  intro c3 e3
  have i3 := CPm_step far (by omega) i2 (m' := 3) rfl rfl rfl (by decide) e3
  clear e3 i2
  intro c4 e4
  have i4 := CPm_step far (by omega) i3 (m' := 4) rfl rfl rfl (by decide) e4
  clear e4 i3
  refine ⟨fun j g1 g2 => by rw [i4.1 _ (by omega)]; exact (h5 j g1 g2).2.2.2.2.1, ?_⟩
  intro c5 e5
  have i5 := CPm_step far (by omega) i4 (m' := 5) rfl rfl rfl (by decide) e5
  clear e5 i4
  refine ⟨fun j g1 g2 => by rw [i5.1 _ (by omega)]; exact (h5 j g1 g2).2.2.2.2.2.1, ?_⟩
  intro c7 e7
  have i7 := CPm_step far (by omega) i5 (m' := 6) rfl rfl rfl (by decide) e7
  clear e7 i5
  intro c9 e9
  have i9 := CPm_step far (by omega) i7 (m' := 7) rfl rfl rfl (by decide) e9
  clear e9 i7
  intro c10 e10
  have i10 := CPm_step far (by omega) i9 (m' := 8) rfl rfl rfl (by decide) e10
  clear e10 i9
  intro c11 e11
  have i11 := CPm_step far (by omega) i10 (m' := 9) rfl rfl rfl (by decide) e11
  clear e11 i10
  intro c12 e12 c13 e13 c14 e14
  have q12 : ∀ k, k ≠ t → ∀ j, c12 k j = c11 k j := fun k g j => by subst e12; exact up2_ne1 g
  have r12 : ∀ j, c12 t j = if j = 10 then c a 10 else c11 t j := fun j => by subst e12; rw [← i11.1 a (by omega)]; simp [up2]
  have q13 : ∀ k, k ≠ t → ∀ j, c13 k j = c11 k j := fun k g j => by subst e13; rw [up2_ne1 g, q12 k g]
  have r13 : ∀ j, c13 t j = if j = 11 then c a 11 else if j = 10 then c a 10 else c11 t j := fun j => by subst e13; rw [← r12, ← i11.1 a (by omega), ← q12 a (by omega)]; simp [up2]
  have q14 : ∀ k, k ≠ t → ∀ j, c14 k j = c11 k j := fun k g j => by subst e14; rw [up2_ne1 g, q13 k g]
  have r14 : ∀ j, c14 t j = if j = 12 then c a 12 else if j = 11 then c a 11 else if j = 10 then c a 10 else c11 t j := fun j => by subst e14; rw [← r13, ← i11.1 a (by omega) 12, ← q13 a (by omega)]; simp [up2]
  have f13 : c14 a 13 = c a 13 := by rw [q14 a (by omega), i11.1 a (by omega)]
  refine ⟨by rw [f13]; exact hT.2.2.2.1, fun c16 e16 => h c16 ?_⟩
  have q16 : ∀ k, k ≠ t → ∀ j, c16 k j = c11 k j := fun k g j => by subst e16; rw [up2_ne1 g, q14 k g]
  have r16 : ∀ j, c16 t j = if j = 13 then c a 13 else if j = 12 then c a 12 else if j = 11 then c a 11 else if j = 10 then c a 10 else c11 t j := fun j => by subst e16; rw [← r14, f13]; simp [up2]
  clear e12 e13 e14 e16 q12 q13 q14 r12 r13 r14
  have sm : ∀ r, 1 ≤ r → r ≤ 9 → ∀ i, 0 ≤ i → i < szR r → c16 (t + r) i = c (a + r) i := fun r g1 g2 i g3 g4 => by rw [q16 _ (by omega)]; exact i11.2 r g1 g2 i g3 g4
  refine ⟨fun k g1 g2 j => ?_, fun j g1 => ?_, ⟨?_, ?_, ?_, ?_⟩, fun i g1 g2 => ⟨sm 1 (by decide) (by decide) i g1 g2, sm 2 (by decide) (by decide) i g1 g2, sm 3 (by decide) (by decide) i g1 g2, sm 4 (by decide) (by decide) i g1 g2, sm 5 (by decide) (by decide) i g1 g2, sm 6 (by decide) (by decide) i g1 g2, sm 8 (by decide) (by decide) i g1 g2⟩, fun i g1 g2 => sm 7 (by decide) (by decide) i g1 g2, fun i g1 g2 => sm 9 (by decide) (by decide) i g1 g2⟩
  · rw [q16 k g1, i11.1 k g2]
  · rw [r16, if_neg (by omega), if_neg (by omega), if_neg (by omega), if_neg (by omega), i11.1 t (by omega)]
  all_goals rw [r16]; simp
theorem cp_hou {c c' : ct} {t a : Int} (ht : isTab t) (hh : isHou (c a 13)) (hC : COPY c c' t a) : ∀ k, c a 13 ≤ k → k ≤ c a 13 + 3 → ∀ j, c' k j = c k j := by
  intro k h1 h2 j
  refine hC.1 k ?_ ?_ j <;> (unfold isHou at hh; unfold isTab at ht; omega)
theorem cp_TR {c c' : ct} {t a : Int} (hC : COPY c c' t a) (hT : TR c a) : TR c' t := by
  obtain ⟨-, -, ⟨s1, s2, s3, s4⟩, r, r7, r9⟩ := hC
  obtain ⟨h1, h2, h3, h4, h5, h6, h7⟩ := hT
  refine ⟨by rw [s1]; exact h1, by rw [s2]; exact h2, by rw [s3]; exact h3, by rw [s4]; exact h4, fun p g1 g2 => ?_, fun i g1 g2 => by rw [r7 i g1 g2]; exact h6 i g1 g2, fun i g1 g2 => by rw [r9 i g1 g2]; exact h7 i g1 g2⟩
  obtain ⟨a1, a2, a3, a4, a5, a6, a8⟩ := r p g1 g2
  rw [a1, a2, a3, a4, a5, a6, a8]
  exact h5 p g1 g2
theorem cp_nbA {c c' : ct} {t a s : Int} (hC : COPY c c' t a) (hT : TR c a) (hs : 0 ≤ s ∧ s < 6) : nbA c' t s = nbA c a s := by
  obtain ⟨-, -, -, r, -, -⟩ := hC
  have h1 := (hT.2.2.2.2.1 s hs.1 hs.2).2.2.2.2.2.2
  have e8 := (r s hs.1 hs.2).2.2.2.2.2.2
  unfold nbA
  rw [e8]
  by_cases z : c (a + 8) s < 0
  · rw [if_pos z, if_pos z]
  · obtain ⟨a1, -, -, -, -, a6, -⟩ := r (c (a + 8) s) (by omega) (by omega)
    rw [a1, a6]
theorem cp_lkY {c c' : ct} {t a Y p q : Int} (ht : isTab t) (hC : COPY c c' t a) (hh : isHou (c a 13)) (hW : WFH c (c a 13)) (hp : 0 ≤ p ∧ p < 6) (hq : 0 ≤ q ∧ q < 6) : lkY c' t Y p q = lkY c a Y p q := by
  have hho := cp_hou ht hh hC
  obtain ⟨-, -, ⟨-, -, -, s4⟩, r, -, -⟩ := hC
  have ef : fctY c' t Y p q = fctY c a Y p q := by
    funext j
    simp only [fctY, (r p hp.1 hp.2).1, (r q hq.1 hq.2).1, (r p hp.1 hp.2).2.1]
  unfold lkY
  rw [s4, ef]
  exact (likA_congr hW (fun _ _ _ => rfl) hho).symm
theorem cp_fondL {c c' : ct} {t a Y g : Int} (ht : isTab t) (hC : COPY c c' t a) (hT : TR c a) (hW : WFH c (c a 13)) (hg : 0 ≤ g ∧ g < 6) : fondL c' t Y g = fondL c a Y g := by
  have hh := hT.2.2.2.1
  have r := hC.2.2.2.1
  obtain ⟨a1, a2, a3, a4, a5, a6, a8⟩ := r g hg.1 hg.2
  have hseat := (hT.2.2.2.2.1 g hg.1 hg.2).2.2.1
  have key : ∀ s, 0 ≤ s ∧ s < 6 → wrmL c' t Y g s = wrmL c a Y g s := by
    intro s hs
    have hn := nbA_r hT hs
    unfold wrmL
    rw [cp_nbA hC hT hs]
    by_cases z : nbA c a s < 0
    · rw [if_pos z, if_pos z]
    · rw [if_neg z, if_neg z, cp_lkY ht hC hh hW hg ⟨by omega, hn.2⟩, a1, a2, (r _ (by omega) hn.2).1]
  have es : sumL c' t Y g = sumL c a Y g := by
    unfold sumL
    rw [a3, key _ (aft_r hseat), key _ (ahd_r hseat)]
  have h4 := tm_r (b := 4) hseat.1 (by omega)
  unfold fondL
  rw [es, a1, a2, a3, a6, hC.2.2.1.2.2.2, cp_hou ht hh hC _ (by omega) (by omega) 6, hC.2.2.2.2.1 _ (by omega) (by omega)]
theorem cp_TI {c c' : ct} {t a : Int} (ht : isTab t) (hC : COPY c c' t a) (hT : TI c a) : TI c' t := by
  obtain ⟨hR, hW, hS, hB⟩ := hT
  have hn := hR.1
  have s := hC.2.2.1
  refine ⟨cp_TR hC hR, by rw [s.2.2.2]; exact WFH_congr hW (cp_hou ht hR.2.2.2.1 hC), fun q g1 g2 => by rw [(hC.2.2.2.1 q g1 g2).2.2.2.2.2.2, s.1]; exact hS q g1 g2, fun p q g1 g2 g3 g4 => ?_⟩
  rw [s.1] at g2 g4
  rw [hC.2.2.2.2.2 _ (by omega) (by omega), hB p q g1 g2 g3 g4, ← lkY_now, ← lkY_now, s.2.2.1]
  exact (cp_lkY ht hC hR.2.2.2.1 hW ⟨g1, by omega⟩ ⟨g3, by omega⟩).symm
/-- seats and sitters are each other's inverse -/
def TS (c : ct) (t : Int) : Prop := (∀ p, 0 ≤ p → p < c t 10 → c (t + 8) (c (t + 3) p) = p) ∧ ∀ s, 0 ≤ s → s < 6 → 0 ≤ c (t + 8) s → c (t + 8) s < c t 10 ∧ c (t + 3) (c (t + 8) s) = s
theorem ts_SIT {c : ct} {t : Int} (h : TS c t) (hn : 0 ≤ c t 10) : SIT c t := by
  intro s g1 g2
  by_cases z : 0 ≤ c (t + 8) s
  · exact (h.2 s g1 g2 z).1
  · omega
theorem cp_TS {c c' : ct} {t a : Int} (hC : COPY c c' t a) (hR : TR c a) (hT : TS c a) : TS c' t := by
  have hn := hR.1
  have s := hC.2.2.1
  have r := hC.2.2.2.1
  refine ⟨fun p g1 g2 => ?_, fun q g1 g2 g3 => ?_⟩
  · rw [s.1] at g2
    have hs := (hR.2.2.2.2.1 p g1 (by omega)).2.2.1
    rw [(r p g1 (by omega)).2.2.1, (r _ hs.1 hs.2).2.2.2.2.2.2]
    exact hT.1 p g1 g2
  · rw [(r q g1 g2).2.2.2.2.2.2] at g3 ⊢
    obtain ⟨z1, z2⟩ := hT.2 q g1 g2 g3
    rw [s.1, (r _ g3 (by omega)).2.2.1]
    exact ⟨z1, z2⟩
