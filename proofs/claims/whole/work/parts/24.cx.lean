/-! CONTRACTS: an evening told abstractly; what guests are fond of -/
abbrev hf := Int → Int → (Int → Int) → Int
def hou (i : Int) : Int := if i < 0 then 7 else 72 + 4 * i
theorem hou_is {i : Int} (h : -1 ≤ i ∧ i < 6) : isHou (hou i) := by
  have : i = -1 ∨ i = 0 ∨ i = 1 ∨ i = 2 ∨ i = 3 ∨ i = 4 ∨ i = 5 := by omega
  rcases this with rfl | rfl | rfl | rfl | rfl | rfl | rfl <;> (unfold hou isHou; simp)
/-- house i is as told -/
def HR (H : hf) (c : ct) (i : Int) : Prop := WFH c (hou i) ∧ ∀ F, likA c (hou i) F = H i 0 F ∧ c (hou i) 5 = H i 1 F ∧ c (hou i) 6 = H i 2 F
def fcG (G : ct) (Y p q : Int) : Int → Int := fun j => if j = 0 then p else if j = 1 then q else if j = 2 then G 1 p else if j = 3 then G 1 q else if j = 4 then G 2 p else Int.tmod Y 10
def lkG (H : hf) (G : ct) (Y p q : Int) : Int := H (G 0 13) 0 (fcG G Y p q)
def tmG (H : hf) (G : ct) (Y p o : Int) : Int := lkG H G Y p o - sis1 (G 1 p) * sis1 (G 1 o) * G 2 p
def smG (H : hf) (G : ct) (Y p : Int) : Int := smR (fun o => if (G 6 o = 0 ∧ ¬ G 1 o = 4) ∧ (G 3 o = aft (G 3 p) ∨ G 3 o = ahd (G 3 p)) then tmG H G Y p o else 0) (G 0 10).toNat 0
def fdG (H : hf) (G : ct) (Y g : Int) : Int :=
  if ¬ G 6 g = 0 then 0 else if G 1 g = 5 ∧ ¬ Int.tmod Y 2 = 0 then 0 else if G 1 g = 4 then G 2 g
  else if G 1 g = 1 then Int.tdiv (smG H G Y g) 2
  else if G 1 g = 2 ∨ G 1 g = 5 then (if G 3 g = 0 then smG H G Y g + H (G 0 13) 2 (fun _ => 0) else smG H G Y g)
  else if G 1 g = 6 then smG H G Y g + G 7 (g * 4 + Int.tmod (G 3 g) 4) else smG H G Y g
/-- the table t is as G tells -/
def RT (H : hf) (c : ct) (t : Int) (G : ct) : Prop := TI c t ∧ TS c t ∧ (c t 10 = G 0 10 ∧ c t 11 = G 0 11 ∧ c t 12 = G 0 12 ∧ c t 13 = hou (G 0 13) ∧ -1 ≤ G 0 13 ∧ G 0 13 < 6) ∧ HR H c (G 0 13) ∧
  (∀ p, 0 ≤ p → p < G 0 10 → (c (t + 1) p = G 1 p ∧ c (t + 2) p = G 2 p ∧ c (t + 3) p = G 3 p ∧ c (t + 4) p = G 4 p ∧ c (t + 5) p = G 5 p ∧ c (t + 6) p = G 6 p) ∧ ∀ i, 0 ≤ i → i < 4 → c (t + 7) (p * 4 + i) = G 7 (p * 4 + i)) ∧ ∀ p, 0 ≤ p → p < 6 → c (t + 4) p ≤ c t 12
theorem sm_zero {f : Int → Int} : ∀ (n : Nat) (i : Int), (∀ j, i ≤ j → j < i + n → f j = 0) → smR f n i = 0 := by
  intro n
  induction n with
  | zero => intro i _; rfl
  | succ n ih =>
    intro i h
    rw [smR, h i (by omega) (by omega), ih (i + 1) (fun j a b => h j (by omega) (by omega))]
    rfl
theorem sm_pick {f : Int → Int} {w : Int} : ∀ (n : Nat) (i : Int), i ≤ w → w < i + n → (∀ j, i ≤ j → j < i + n → j ≠ w → f j = 0) → smR f n i = f w := by
  intro n
  induction n with
  | zero => intro i a b _; omega
  | succ n ih =>
    intro i a b h
    rw [smR]
    by_cases e : i = w
    · subst e
      rw [sm_zero n (i + 1) (fun j g1 g2 => h j (by omega) (by omega) (by omega)), Int.add_zero]
    · rw [h i (by omega) (by omega) e, ih (i + 1) (by omega) (by omega) (fun j g1 g2 g3 => h j (by omega) (by omega) g3), Int.zero_add]
theorem sm_add {f g : Int → Int} : ∀ (n : Nat) (i : Int), smR (fun o => f o + g o) n i = smR f n i + smR g n i := by
  intro n
  induction n with
  | zero => intro i; rfl
  | succ n ih => intro i; rw [smR, smR, smR, ih]; omega
theorem aft_ahd {s : Int} (h : 0 ≤ s ∧ s < 6) : aft s ≠ ahd s ∧ aft s ≠ s ∧ ahd s ≠ s := by
  rcases six h with rfl | rfl | rfl | rfl | rfl | rfl <;> decide
/-- what the seat s brings, told by who sits there -/
theorem wrm_sum {H : hf} {c G : ct} {t Y p s : Int} (hR : RT H c t G) (hp : 0 ≤ p ∧ p < G 0 10) (hs : 0 ≤ s ∧ s < 6) :
    wrmL c t Y p s = smR (fun o => if (G 6 o = 0 ∧ ¬ G 1 o = 4) ∧ G 3 o = s then tmG H G Y p o else 0) (G 0 10).toNat 0 := by
  obtain ⟨⟨hT, hW, hS, hB⟩, hTS, ⟨e10, e11, e12, e13, -, -⟩, hH, hE, -⟩ := hR
  have hn := hT.1
  have lk : ∀ o, 0 ≤ o → o < G 0 10 → lkY c t Y p o = lkG H G Y p o := by
    intro o o1 o2
    unfold lkY lkG
    rw [e13, (hH.2 _).1]
    congr 1
    funext j
    simp only [fctY, fcG, (hE p hp.1 hp.2).1.1, (hE p hp.1 hp.2).1.2.1, (hE o o1 o2).1.1]
  unfold wrmL
  have hsr := (hT.2.2.2.2.1 s hs.1 hs.2).2.2.2.2.2.2
  by_cases z : 0 ≤ c (t + 8) s
  · obtain ⟨w1, w2⟩ := hTS.2 s hs.1 hs.2 z
    have ew := (hE (c (t + 8) s) z (by omega)).1
    rw [sm_pick (w := c (t + 8) s) _ 0 (by omega) (by omega) (fun j g1 g2 g3 => ?_)]
    · have e3 : G 3 (c (t + 8) s) = s := by rw [← ew.2.2.1]; exact w2
      simp only [e3, and_true]
      have hnb : nbA c t s = if G 6 (c (t + 8) s) = 0 then (if G 1 (c (t + 8) s) = 4 then -1 else c (t + 8) s) else -1 := by
        unfold nbA
        rw [if_neg (show ¬ c (t + 8) s < 0 by omega), ew.2.2.2.2.2, ew.1]
      rw [hnb]
      by_cases a : G 6 (c (t + 8) s) = 0
      · by_cases b : G 1 (c (t + 8) s) = 4
        · rw [if_pos a, if_pos b, if_pos (show (-1 : Int) < 0 by decide), if_neg (fun q => q.2 b)]
        · rw [if_pos a, if_neg b, if_neg (show ¬ c (t + 8) s < 0 by omega), if_pos ⟨a, b⟩, lk _ z (by omega), ew.1, (hE p hp.1 hp.2).1.1, (hE p hp.1 hp.2).1.2.1]
          rfl
      · rw [if_neg a, if_pos (show (-1 : Int) < 0 by decide), if_neg (fun q => a q.1)]
    · refine if_neg (fun q => g3 ?_)
      have ej := (hE j g1 (by omega)).1.2.2.1
      have := hTS.1 j g1 (by omega)
      rw [ej, q.2] at this
      exact this.symm
  · rw [sm_zero _ 0 (fun j g1 g2 => if_neg (fun q => ?_))]
    · have hnb : nbA c t s = -1 := by unfold nbA; exact if_pos (by omega)
      rw [hnb, if_pos (show (-1 : Int) < 0 by decide)]
    · have ej := (hE j g1 (by omega)).1.2.2.1
      have := hTS.1 j g1 (by omega)
      rw [ej, q.2] at this
      omega
theorem sum_G {H : hf} {c G : ct} {t Y p : Int} (hR : RT H c t G) (hp : 0 ≤ p ∧ p < G 0 10) : sumL c t Y p = smG H G Y p := by
  have hR' := hR
  obtain ⟨⟨hT, -, -, -⟩, -, ⟨e10, -, -, -, -, -⟩, -, hE, -⟩ := hR
  have hn := hT.1
  have h3 := (hT.2.2.2.2.1 p hp.1 (by omega)).2.2.1
  have e3 := (hE p hp.1 hp.2).1.2.2.1
  rw [e3] at h3
  unfold sumL smG
  rw [e3, wrm_sum hR' hp (aft_r h3), wrm_sum hR' hp (ahd_r h3), ← sm_add]
  refine smR_congr _ _ (fun o g1 g2 => ?_)
  have hne := (aft_ahd h3).1
  by_cases a : G 6 o = 0 ∧ ¬ G 1 o = 4
  · by_cases b : G 3 o = aft (G 3 p)
    · have b2 : ¬ G 3 o = ahd (G 3 p) := by rw [b]; exact hne
      simp only [a, b, b2, hne, true_or, and_true, and_false, not_false_eq_true, if_true, if_false, and_self, Int.add_zero]
    · by_cases b2 : G 3 o = ahd (G 3 p)
      · have := hne.symm
        simp only [a, b2, this, or_true, and_true, and_false, not_false_eq_true, if_true, if_false, and_self, Int.zero_add]
      · simp only [b, b2, or_self, and_false, if_false, Int.add_zero]
  · simp only [a, false_and, if_false, Int.add_zero]
theorem fond_G {H : hf} {c G : ct} {t Y p : Int} (hR : RT H c t G) (hp : 0 ≤ p ∧ p < G 0 10) : fondL c t Y p = fdG H G Y p := by
  have hR' := hR
  obtain ⟨⟨hT, -, -, -⟩, -, ⟨e10, -, -, e13, -, -⟩, hH, hE, -⟩ := hR
  have hn := hT.1
  have e := (hE p hp.1 hp.2).1
  have h3 := (hT.2.2.2.2.1 p hp.1 (by omega)).2.2.1
  rw [e.2.2.1] at h3
  have h4 := tm_r (b := 4) h3.1 (by omega)
  unfold fondL fdG
  rw [sum_G hR' hp, e.1, e.2.1, e.2.2.1, e.2.2.2.2.2, e13, (hH.2 (fun _ => 0)).2.2, (hE p hp.1 hp.2).2 _ h4.1 h4.2]
theorem fondA_G {H : hf} {c G : ct} {t p : Int} (hR : RT H c t G) (hp : 0 ≤ p ∧ p < G 0 10) : fondA c t p = fdG H G (G 0 12) p := by
  rw [fond_AL hR.1.1 hR.1.2.2.1 hR.1.2.2.2 ⟨hp.1, by rw [hR.2.2.1.1]; exact hp.2⟩, fond_G hR hp, hR.2.2.1.2.2.1]
theorem RT_HT {H : hf} {c G : ct} {t : Int} (hR : RT H c t G) : HT c t := ⟨hR.1.2.1.2.1, hR.1.2.1.2.2.1⟩
theorem fdG_r {H : hf} {c G : ct} {t p : Int} (hR : RT H c t G) (hp : 0 ≤ p ∧ p < G 0 10) : -2200 ≤ fdG H G (G 0 12) p ∧ fdG H G (G 0 12) p ≤ 2200 := by
  rw [← fondA_G hR hp]
  exact fondA_r hR.1.1 (RT_HT hR) ⟨hp.1, by have := hR.1.1.1; have := hR.2.2.1.1; omega⟩
def allG (H : hf) (G : ct) (Y : Int) : Int := smR (fdG H G Y) (G 0 10).toNat 0
theorem g_fondOf {H : hf} {G : ct} {K : SK} {d : Nat} {c : ct} {Q : ct → Int → Prop} {t g : Int} (ht : isTab t) (hR : RT H c t G) (hg : 0 ≤ g ∧ g < G 0 10) (h : Q c (fdG H G (G 0 12) g)) : CI K (d + 3) mX6_fondOf [(2, t), (0, g)] c Q := by
  have := hR.1.1.1
  have := hR.2.2.1.1
  refine k_X6_fondOf ht hR.1.1 ⟨hg.1, by omega⟩ ?_
  rw [fondA_G hR hg]
  exact h
theorem g_fondOfAll {H : hf} {G : ct} {K : SK} {d : Nat} {c : ct} {Q : ct → Int → Prop} {t : Int} (ht : isTab t) (hR : RT H c t G) (h : Q c (allG H G (G 0 12))) : CI K (d + 4) mX6_fondOfAll [(2, t)] c Q := by
  refine k_X6_fondOfAll ht hR.1.1 ?_
  have e10 := hR.2.2.1.1
  rw [smR_congr (g := fdG H G (G 0 12)) _ _ (fun j g1 g2 => fondA_G hR ⟨g1, by omega⟩), e10]
  exact h
theorem allG_r {H : hf} {c G : ct} {t : Int} (hR : RT H c t G) : -13200 ≤ allG H G (G 0 12) ∧ allG H G (G 0 12) ≤ 13200 := by
  have h1 := smR_bd (f := fdG H G (G 0 12)) (B := 2200) (G 0 10).toNat 0 (fun j g1 g2 => fdG_r hR ⟨g1, by omega⟩)
  have := hR.1.1.1
  have := hR.2.2.1.1
  unfold allG
  omega
