/-! CONTRACTS: what an evening's moves do, told abstractly -/
def offT (c c' : ct) (t : Int) : Prop := ∀ k, (k < t ∨ t + 10 < k) → ∀ j, c' k j = c k j
theorem offT.trans {c c1 c2 : ct} {t : Int} (h1 : offT c c1 t) (h2 : offT c1 c2 t) : offT c c2 t := fun k a j => (h2 k a j).trans (h1 k a j)
theorem offT_hou {c c' : ct} {t i : Int} (ht : isTab t) (hi : -1 ≤ i ∧ i < 6) (h : offT c c' t) : ∀ k, hou i ≤ k → k ≤ hou i + 3 → ∀ j, c' k j = c k j := by
  intro k h1 h2 j
  refine h k ?_ j
  have hh := hou_is hi
  unfold isHou at hh; unfold isTab at ht; omega
theorem HR_congr {H : hf} {c c' : ct} {i : Int} (h : HR H c i) (hc : ∀ k, hou i ≤ k → k ≤ hou i + 3 → ∀ j, c' k j = c k j) : HR H c' i := by
  refine ⟨WFH_congr h.1 hc, fun F => ?_⟩
  rw [hc _ (by omega) (by omega), hc _ (by omega) (by omega), ← likA_congr h.1 (fun _ _ _ => rfl) hc]
  exact h.2 F
/-- liking asks kinds, v, the year and the house alone -/
theorem lkA_same {c c' : ct} {t p q : Int} (hW : WFH c (c t 13)) (hh : ∀ k, c t 13 ≤ k → k ≤ c t 13 + 3 → ∀ j, c' k j = c k j) (e13 : c' t 13 = c t 13) (e12 : c' t 12 = c t 12) (e1 : c' (t + 1) p = c (t + 1) p ∧ c' (t + 1) q = c (t + 1) q) (e2 : c' (t + 2) p = c (t + 2) p) : lkA c' t p q = lkA c t p q := by
  unfold lkA
  rw [e13]
  refine (likA_congr hW (fun j _ _ => ?_) hh).symm
  simp only [fct, e12, e1.1, e1.2, e2]
theorem RT_tab {H : hf} {c c' G : ct} {a : Int} (hR : RT H c a G) (hk : ∀ k, a ≤ k → k ≤ a + 9 → ∀ j, c' k j = c k j) (hh : ∀ k, hou (G 0 13) ≤ k → k ≤ hou (G 0 13) + 3 → ∀ j, c' k j = c k j) : RT H c' a G := by
  obtain ⟨⟨hT, hW, hS, hB⟩, hTS, ⟨e10, e11, e12, e13, e14, e15⟩, hH, hE, hU⟩ := hR
  have r0 : ∀ j, c' a j = c a j := fun j => hk _ (by omega) (by omega) j
  have r1 : ∀ j, c' (a + 1) j = c (a + 1) j := fun j => hk _ (by omega) (by omega) j
  have r2 : ∀ j, c' (a + 2) j = c (a + 2) j := fun j => hk _ (by omega) (by omega) j
  have r3 : ∀ j, c' (a + 3) j = c (a + 3) j := fun j => hk _ (by omega) (by omega) j
  have r4 : ∀ j, c' (a + 4) j = c (a + 4) j := fun j => hk _ (by omega) (by omega) j
  have r5 : ∀ j, c' (a + 5) j = c (a + 5) j := fun j => hk _ (by omega) (by omega) j
  have r6 : ∀ j, c' (a + 6) j = c (a + 6) j := fun j => hk _ (by omega) (by omega) j
  have r7 : ∀ j, c' (a + 7) j = c (a + 7) j := fun j => hk _ (by omega) (by omega) j
  have r8 : ∀ j, c' (a + 8) j = c (a + 8) j := fun j => hk _ (by omega) (by omega) j
  have r9 : ∀ j, c' (a + 9) j = c (a + 9) j := fun j => hk _ (by omega) (by omega) j
  rw [← e13] at hh
  refine ⟨⟨?_, ?_, ?_, ?_⟩, ?_, ?_, ?_, ?_, ?_⟩
  · unfold TR at hT ⊢; simp only [r0, r1, r2, r3, r4, r5, r6, r7, r8, r9]; exact hT
  · rw [r0]; exact WFH_congr hW hh
  · unfold SIT at hS ⊢; simp only [r0, r8]; exact hS
  · intro p q g1 g2 g3 g4
    rw [r0] at g2 g4
    rw [r9, lkA_same hW hh (r0 _) (r0 _) ⟨r1 _, r1 _⟩ (r2 _)]
    exact hB p q g1 g2 g3 g4
  · unfold TS at hTS ⊢; simp only [r0, r3, r8]; exact hTS
  · simp only [r0]; exact ⟨e10, e11, e12, e13, e14, e15⟩
  · rw [e13] at hh; exact HR_congr hH hh
  · simp only [r1, r2, r3, r4, r5, r6, r7]; exact hE
  · simp only [r0, r4]; exact hU
theorem RT_off {H : hf} {c c' G : ct} {t a : Int} (ht : isTab t) (ha : isTab a) (hne : t ≠ a) (hR : RT H c a G) (ho : offT c c' t) : RT H c' a G := by
  refine RT_tab hR (fun k g1 g2 j => ho k (by unfold isTab at ht ha; omega) j) (offT_hou ht ⟨hR.2.2.1.2.2.2.2.1, hR.2.2.1.2.2.2.2.2⟩ ho)
theorem RT_G {H : hf} {c G G' : ct} {t : Int} (hR : RT H c t G) (h0 : ∀ j, 10 ≤ j → j ≤ 13 → G' 0 j = G 0 j) (h : ∀ p, 0 ≤ p → p < G 0 10 → (G' 1 p = G 1 p ∧ G' 2 p = G 2 p ∧ G' 3 p = G 3 p ∧ G' 4 p = G 4 p ∧ G' 5 p = G 5 p ∧ G' 6 p = G 6 p) ∧ ∀ i, 0 ≤ i → i < 4 → G' 7 (p * 4 + i) = G 7 (p * 4 + i)) : RT H c t G' := by
  obtain ⟨hTI, hTS, ⟨e10, e11, e12, e13, e14, e15⟩, hH, hE, hU⟩ := hR
  have a10 := h0 10 (by decide) (by decide)
  have a11 := h0 11 (by decide) (by decide)
  have a12 := h0 12 (by decide) (by decide)
  have a13 := h0 13 (by decide) (by decide)
  refine ⟨hTI, hTS, ⟨by rw [a10]; exact e10, by rw [a11]; exact e11, by rw [a12]; exact e12, by rw [a13]; exact e13, by rw [a13]; exact e14, by rw [a13]; exact e15⟩, by rw [a13]; exact hH, fun p g1 g2 => ?_, hU⟩
  rw [a10] at g2
  obtain ⟨⟨b1, b2, b3, b4, b5, b6⟩, b7⟩ := h p g1 g2
  rw [b1, b2, b3, b4, b5, b6]
  exact ⟨(hE p g1 g2).1, fun i i1 i2 => by rw [b7 i i1 i2]; exact (hE p g1 g2).2 i i1 i2⟩
theorem g_copyFrom {H : hf} {G : ct} {K : SK} {d : Nat} {c : ct} {Q : ct → Prop} {t a : Int} (ht : isTab t) (ha : isTab a) (hne : t ≠ a) (hR : RT H c a G) (h : ∀ c', offT c c' t → COPY c c' t a → RT H c' t G → Q c') : CV K (d + 1) mX6_copyFrom [(2, t), (2, a)] c Q := by
  refine k_X6_copyFrom ht ha hne hR.1.1 (fun c' hC => ?_)
  have ho : offT c c' t := fun k a j => hC.1 k (by omega) (by omega) j
  refine h c' ho hC ?_
  obtain ⟨hTI, hTS, ⟨e10, e11, e12, e13, e14, e15⟩, hH, hE, hU⟩ := hR
  have hn := hTI.1.1
  have s := hC.2.2.1
  refine ⟨cp_TI ht hC hTI, cp_TS hC hTI.1 hTS, ⟨s.1.trans e10, s.2.1.trans e11, s.2.2.1.trans e12, s.2.2.2.trans e13, e14, e15⟩, HR_congr hH (offT_hou ht ⟨e14, e15⟩ ho), fun p g1 g2 => ?_, fun p g1 g2 => ?_⟩
  · obtain ⟨r1, r2, r3, r4, r5, r6, -⟩ := hC.2.2.2.1 p g1 (by omega)
    rw [r1, r2, r3, r4, r5, r6]
    refine ⟨(hE p g1 g2).1, fun i i1 i2 => ?_⟩
    rw [hC.2.2.2.2.1 _ (by omega) (by omega)]
    exact (hE p g1 g2).2 i i1 i2
  · rw [(hC.2.2.2.1 p g1 g2).2.2.2.1, s.2.2.1]
    exact hU p g1 g2
theorem mov3 {c : ct} {t g s p : Int} : movC c t g s (t + 3) p = if p = g then s else if 0 ≤ c (t + 8) s ∧ p = c (t + 8) s then c (t + 3) g else c (t + 3) p := by
  have n1 : ¬ (t + 3 = t + 8) := by omega
  have n2 : ¬ (t + 8 = t + 3) := by omega
  unfold movC plcC
  by_cases z : c (t + 8) s < 0
  · rw [if_pos z]
    simp only [up2, n1, n2, true_and, false_and, if_false, if_neg (show ¬ (0 ≤ c (t + 8) s ∧ p = c (t + 8) s) by omega)]
  · rw [if_neg z]
    simp only [up2, n1, n2, true_and, false_and, if_false, show 0 ≤ c (t + 8) s by omega]
theorem mov8 {c : ct} {t g s q : Int} : movC c t g s (t + 8) q = if q = s then g else if q = c (t + 3) g then (if 0 ≤ c (t + 8) s then c (t + 8) s else -1) else c (t + 8) q := by
  have n1 : ¬ (t + 3 = t + 8) := by omega
  have n2 : ¬ (t + 8 = t + 3) := by omega
  unfold movC plcC
  by_cases z : c (t + 8) s < 0
  · rw [if_pos z]
    simp only [up2, n1, n2, true_and, false_and, if_false, if_neg (show ¬ (0 ≤ c (t + 8) s) by omega)]
  · rw [if_neg z]
    simp only [up2, n1, n2, true_and, false_and, if_false, if_pos (show 0 ≤ c (t + 8) s by omega)]
    repeat' split
    all_goals rfl
theorem mov_ne {c : ct} {t g s k q : Int} (h : k ≠ t + 3) (h8 : k ≠ t + 8) : movC c t g s k q = c k q := by
  unfold movC plcC
  split <;> simp only [up2, h, h8, false_and, if_false]
def mvG (G : ct) (g s : Int) : ct := fun k j => if k = 3 then (if j = g then s else if G 3 j = s then G 3 g else G 3 j) else G k j
theorem g_moveTo {H : hf} {G : ct} {K : SK} {d : Nat} {c : ct} {Q : ct → Prop} {t g s : Int} (ht : isTab t) (hR : RT H c t G) (hg : 0 ≤ g ∧ g < G 0 10) (hs : 0 ≤ s ∧ s < 6) (h : ∀ c', offT c c' t → (∀ k, k ≠ t + 3 → k ≠ t + 8 → ∀ j, c' k j = c k j) → RT H c' t (mvG G g s) → Q c') : CV K (d + 2) mX6_moveTo [(2, t), (0, g), (0, s)] c Q := by
  obtain ⟨⟨hT, hW, hS, hB⟩, hTS, ⟨e10, e11, e12, e13, e14, e15⟩, hH, hE, hU⟩ := hR
  have hn := hT.1
  have hg6 : 0 ≤ g ∧ g < 6 := ⟨hg.1, by omega⟩
  have own := (hT.2.2.2.2.1 g hg6.1 hg6.2).2.2.1
  have oth := (hT.2.2.2.2.1 s hs.1 hs.2).2.2.2.2.2.2
  refine k_X6_moveTo ht hT hg6 hs (h _ (fun k a j => mov_ne (by omega) (by omega)) (fun k a b j => mov_ne a b) ?_)
  have ne : ∀ k, k ≠ t + 3 → k ≠ t + 8 → ∀ j, movC c t g s k j = c k j := fun k a b j => mov_ne a b
  have hh : ∀ k, c t 13 ≤ k → k ≤ c t 13 + 3 → ∀ j, movC c t g s k j = c k j := by
    intro k h1 h2 j
    have hh := hT.2.2.2.1
    refine ne k ?_ ?_ j <;> (unfold isHou at hh; unfold isTab at ht; omega)
  have sg := hTS.1 g hg.1 (by omega)
  have r0 : ∀ j, movC c t g s t j = c t j := ne t (by omega) (by omega)
  have t3 : ∀ p, 0 ≤ p → p < 6 → 0 ≤ movC c t g s (t + 3) p ∧ movC c t g s (t + 3) p < 6 := by
    intro p g1 g2
    have := (hT.2.2.2.2.1 p g1 g2).2.2.1
    rw [mov3]
    repeat' split
    all_goals omega
  have t8 : ∀ p, 0 ≤ p → p < 6 → -1 ≤ movC c t g s (t + 8) p ∧ movC c t g s (t + 8) p < 6 := by
    intro p g1 g2
    have := (hT.2.2.2.2.1 p g1 g2).2.2.2.2.2.2
    rw [mov8]
    repeat' split
    all_goals omega
  have hTS' : TS (movC c t g s) t := by
    refine ⟨fun p g1 g2 => ?_, fun q g1 g2 g3 => ?_⟩
    · rw [r0] at g2
      have sp := hTS.1 p g1 g2
      rw [mov3]
      by_cases a : p = g
      · subst a; rw [if_pos rfl, mov8, if_pos rfl]
      · rw [if_neg a]
        by_cases b : 0 ≤ c (t + 8) s ∧ p = c (t + 8) s
        · rw [if_pos b, mov8]
          by_cases e : c (t + 3) g = s
          · rw [e] at sg; omega
          · rw [if_neg e, if_pos rfl, if_pos b.1]; exact b.2.symm
        · rw [if_neg b, mov8]
          have n1 : c (t + 3) p ≠ s := by intro e; rw [e] at sp; omega
          have n2 : c (t + 3) p ≠ c (t + 3) g := by intro e; rw [e] at sp; omega
          rw [if_neg n1, if_neg n2]; exact sp
    · rw [mov8] at g3 ⊢
      rw [r0]
      by_cases a : q = s
      · subst a; rw [if_pos rfl, mov3, if_pos rfl]; exact ⟨by omega, rfl⟩
      · rw [if_neg a] at g3 ⊢
        by_cases b : q = c (t + 3) g
        · rw [if_pos b] at g3 ⊢
          by_cases z : 0 ≤ c (t + 8) s
          · rw [if_pos z] at g3 ⊢
            obtain ⟨w1, w2⟩ := hTS.2 s hs.1 hs.2 z
            rw [mov3]
            by_cases e : c (t + 8) s = g
            · rw [e] at w2; omega
            · rw [if_neg e, if_pos ⟨z, rfl⟩]; exact ⟨w1, b.symm⟩
          · rw [if_neg z] at g3; omega
        · rw [if_neg b] at g3 ⊢
          obtain ⟨w1, w2⟩ := hTS.2 q g1 g2 g3
          rw [mov3]
          have n1 : c (t + 8) q ≠ g := by intro e; rw [e] at w2; omega
          have n2 : ¬ (0 ≤ c (t + 8) s ∧ c (t + 8) q = c (t + 8) s) := by
            intro e
            obtain ⟨-, w4⟩ := hTS.2 s hs.1 hs.2 e.1
            rw [← e.2, w2] at w4
            omega
          rw [if_neg n1, if_neg n2]; exact ⟨w1, w2⟩
  refine ⟨⟨?_, ?_, ts_SIT hTS' (by rw [r0]; omega), ?_⟩, hTS', ?_, ?_, fun p g1 g2 => ⟨?_, fun i i1 i2 => ?_⟩, fun p g1 g2 => ?_⟩
  · obtain ⟨h1, h2, h3, h4, h5, h6, h7⟩ := hT
    refine ⟨by rw [r0]; exact h1, by rw [r0]; exact h2, by rw [r0]; exact h3, by rw [r0]; exact h4, fun p g1 g2 => ?_, fun i g1 g2 => by rw [ne _ (by omega) (by omega)]; exact h6 i g1 g2, fun i g1 g2 => by rw [ne _ (by omega) (by omega)]; exact h7 i g1 g2⟩
    have hp := h5 p g1 g2
    refine ⟨by rw [ne _ (by omega) (by omega)]; exact hp.1, by rw [ne _ (by omega) (by omega)]; exact hp.2.1, t3 p g1 g2, by rw [ne _ (by omega) (by omega)]; exact hp.2.2.2.1, by rw [ne _ (by omega) (by omega)]; exact hp.2.2.2.2.1, by rw [ne _ (by omega) (by omega)]; exact hp.2.2.2.2.2.1, t8 p g1 g2⟩
  · rw [r0]; exact WFH_congr hW hh
  · intro p q g1 g2 g3 g4
    rw [r0] at g2 g4
    rw [ne _ (by omega) (by omega), lkA_same hW hh (r0 _) (r0 _) ⟨ne _ (by omega) (by omega) _, ne _ (by omega) (by omega) _⟩ (ne _ (by omega) (by omega) _)]
    exact hB p q g1 g2 g3 g4
  · simp only [r0]; exact ⟨e10, e11, e12, e13, e14, e15⟩
  · rw [e13] at hh; exact HR_congr hH hh
  · have e := (hE p g1 g2).1
    rw [ne (t + 1) (by omega) (by omega), ne (t + 2) (by omega) (by omega), ne (t + 4) (by omega) (by omega), ne (t + 5) (by omega) (by omega), ne (t + 6) (by omega) (by omega)]
    refine ⟨e.1, e.2.1, ?_, e.2.2.2.1, e.2.2.2.2.1, e.2.2.2.2.2⟩
    have g2' : p < c t 10 := by rw [e10]; exact g2
    have sp := hTS.1 p g1 g2'
    rw [mov3]
    show _ = if p = g then s else if G 3 p = s then G 3 g else G 3 p
    rw [← e.2.2.1, ← (hE g hg.1 hg.2).1.2.2.1]
    by_cases a : p = g
    · rw [if_pos a, if_pos a]
    · rw [if_neg a, if_neg a]
      by_cases b : c (t + 3) p = s
      · rw [b] at sp
        rw [if_pos b, if_pos ⟨by omega, sp.symm⟩]
      · rw [if_neg b, if_neg]
        intro q
        have := (hTS.2 s hs.1 hs.2 q.1).2
        rw [← q.2] at this
        exact b this
  · rw [ne (t + 7) (by omega) (by omega)]
    exact (hE p g1 g2).2 i i1 i2
  · rw [ne (t + 4) (by omega) (by omega), r0]; exact hU p g1 g2
