/-! CONTRACTS: cups, goings, years, new guests, told abstractly -/
theorem RT_rows {H : hf} {c c' G G' : ct} {t : Int} (ht : isTab t) (hR : RT H c t G) (ho : ∀ k, k ≠ t → (k < t + 4 ∨ t + 7 < k) → ∀ j, c' k j = c k j) (h0 : ∀ j, j ≠ 11 → c' t j = c t j) (h11 : 0 ≤ c' t 11 ∧ c' t 11 < 6)
    (hr : ∀ p, 0 ≤ p → p < 6 → (0 ≤ c' (t + 4) p ∧ c' (t + 4) p ≤ c t 12) ∧ (c' (t + 5) p = 0 ∨ c' (t + 5) p = 1) ∧ (c' (t + 6) p = 0 ∨ c' (t + 6) p = 1)) (h7 : ∀ i, 0 ≤ i → i < 24 → 0 ≤ c' (t + 7) i ∧ c' (t + 7) i ≤ 9)
    (hG : G' 0 10 = G 0 10 ∧ c' t 11 = G' 0 11 ∧ G' 0 12 = G 0 12 ∧ G' 0 13 = G 0 13)
    (hG' : ∀ p, 0 ≤ p → p < G 0 10 → (G' 1 p = G 1 p ∧ G' 2 p = G 2 p ∧ G' 3 p = G 3 p ∧ c' (t + 4) p = G' 4 p ∧ c' (t + 5) p = G' 5 p ∧ c' (t + 6) p = G' 6 p) ∧ ∀ i, 0 ≤ i → i < 4 → c' (t + 7) (p * 4 + i) = G' 7 (p * 4 + i)) : RT H c' t G' := by
  obtain ⟨⟨hT, hW, hS, hB⟩, hTS, ⟨e10, e11, e12, e13, e14, e15⟩, hH, hE, hU⟩ := hR
  have hh : ∀ k, c t 13 ≤ k → k ≤ c t 13 + 3 → ∀ j, c' k j = c k j := by
    intro k h1 h2 j
    have hh := hT.2.2.2.1
    refine ho k ?_ ?_ j <;> (unfold isHou at hh; unfold isTab at ht; omega)
  have r1 : ∀ j, c' (t + 1) j = c (t + 1) j := ho _ (by omega) (by omega)
  have r2 : ∀ j, c' (t + 2) j = c (t + 2) j := ho _ (by omega) (by omega)
  have r3 : ∀ j, c' (t + 3) j = c (t + 3) j := ho _ (by omega) (by omega)
  have r8 : ∀ j, c' (t + 8) j = c (t + 8) j := ho _ (by omega) (by omega)
  have r9 : ∀ j, c' (t + 9) j = c (t + 9) j := ho _ (by omega) (by omega)
  have z10 := h0 10 (by decide)
  have z12 := h0 12 (by decide)
  have z13 := h0 13 (by decide)
  refine ⟨⟨?_, ?_, ?_, ?_⟩, ?_, ?_, ?_, fun p g1 g2 => ?_, fun p g1 g2 => ?_⟩
  · obtain ⟨h1, h2, h3, h4, h5, h6, h7'⟩ := hT
    refine ⟨by rw [z10]; exact h1, h11, by rw [z12]; exact h3, by rw [z13]; exact h4, fun p g1 g2 => ?_, h7, fun i g1 g2 => by rw [r9]; exact h7' i g1 g2⟩
    have hp := h5 p g1 g2
    have hq := hr p g1 g2
    rw [r1, r2, r3, r8]
    exact ⟨hp.1, hp.2.1, hp.2.2.1, ⟨hq.1.1, by omega⟩, hq.2.1, hq.2.2, hp.2.2.2.2.2.2⟩
  · rw [z13]; exact WFH_congr hW hh
  · unfold SIT at hS ⊢; simp only [z10, r8]; exact hS
  · intro p q g1 g2 g3 g4
    rw [z10] at g2 g4
    rw [r9, lkA_same hW hh z13 z12 ⟨r1 _, r1 _⟩ (r2 _)]
    exact hB p q g1 g2 g3 g4
  · unfold TS at hTS ⊢; simp only [z10, r3, r8]; exact hTS
  · rw [z10, z12, z13, hG.1, hG.2.2.1, hG.2.2.2]; exact ⟨e10, hG.2.1, e12, e13, e14, e15⟩
  · rw [hG.2.2.2]; rw [e13] at hh; exact HR_congr hH hh
  · rw [hG.1] at g2
    obtain ⟨⟨a1, a2, a3, a4, a5, a6⟩, a7⟩ := hG' p g1 g2
    rw [r1, r2, r3, a1, a2, a3]
    have e := (hE p g1 g2).1
    exact ⟨⟨e.1, e.2.1, e.2.2.1, a4, a5, a6⟩, a7⟩
  · rw [z12]; exact (hr p g1 g2).1.2
def goG (G : ct) (g v : Int) : ct := fun k j => if k = 6 ∧ j = g then v else G k j
theorem RT_gone {H : hf} {c G : ct} {t g v : Int} (ht : isTab t) (hR : RT H c t G) (hv : v = 0 ∨ v = 1) : RT H (up2 c (t + 6) g v) t (goG G g v) := by
  have hT := hR.1.1
  refine RT_rows ht hR (fun k a b j => up2_ne1 (by omega)) (fun j a => up2_ne1 (by omega)) (by rw [up2_ne1 (by omega)]; exact hT.2.1) (fun p g1 g2 => ?_) (fun i g1 g2 => by rw [up2_ne1 (by omega)]; exact hT.2.2.2.2.2.1 i g1 g2) ⟨rfl, by rw [up2_ne1 (by omega)]; exact hR.2.2.1.2.1, rfl, rfl⟩ (fun p g1 g2 => ?_)
  · have hp := hT.2.2.2.2.1 p g1 g2
    rw [up2_ne1 (by omega), up2_ne1 (by omega)]
    refine ⟨⟨hp.2.2.2.1.1, hR.2.2.2.2.2 p g1 g2⟩, hp.2.2.2.2.1, ?_⟩
    simp only [up2, true_and]
    split
    · exact hv
    · exact hp.2.2.2.2.2.1
  · obtain ⟨e, e7⟩ := hR.2.2.2.2.1 p g1 g2
    rw [up2_ne1 (by omega), up2_ne1 (by omega)]
    refine ⟨⟨rfl, rfl, rfl, e.2.2.2.1, e.2.2.2.2.1, ?_⟩, fun i i1 i2 => by rw [up2_ne1 (by omega)]; exact e7 i i1 i2⟩
    simp only [up2, goG, true_and, e.2.2.2.2.2]
def poG (G : ct) (s : Int) : ct := fun k j => if k = 0 ∧ j = 11 then s else if k = 5 ∧ G 3 j = s then 0 else G k j
theorem poG_n {G : ct} {s j : Int} (h : j ≠ 11) : poG G s 0 j = G 0 j := by simp [poG, h]
theorem RT_pour {H : hf} {c G : ct} {t s : Int} (ht : isTab t) (hR : RT H c t G) (hs : 0 ≤ s ∧ s < 6) : RT H (pourC c t s) t (poG G s) := by
  have hT := hR.1.1
  have hTS := hR.2.1
  have p11 : pourC c t s t 11 = s := by
    unfold pourC
    split
    · exact up2_self
    · rw [up2_ne1 (by omega), up2_self]
  have pne : ∀ k, k ≠ t → k ≠ t + 5 → ∀ j, pourC c t s k j = c k j := by
    intro k a b j
    unfold pourC
    split
    · exact up2_ne1 a
    · rw [up2_ne1 b, up2_ne1 a]
  have p0 : ∀ j, j ≠ 11 → pourC c t s t j = c t j := by
    intro j a
    unfold pourC
    split
    · exact up2_ne2 a
    · rw [up2_ne1 (by omega), up2_ne2 a]
  have p5 : ∀ p, pourC c t s (t + 5) p = if 0 ≤ c (t + 8) s ∧ p = c (t + 8) s then 0 else c (t + 5) p := by
    intro p
    unfold pourC
    by_cases z : c (t + 8) s < 0
    · rw [if_pos z, up2_ne1 (by omega), if_neg (by omega)]
    · rw [if_neg z]
      simp only [up2, true_and, show 0 ≤ c (t + 8) s by omega]
      split
      · rfl
      · rw [if_neg (by omega)]
  refine RT_rows ht hR (fun k a b j => pne k a (by omega) j) p0 (by rw [p11]; exact hs) (fun p g1 g2 => ?_) (fun i g1 g2 => by rw [pne _ (by omega) (by omega)]; exact hT.2.2.2.2.2.1 i g1 g2) ⟨rfl, by rw [p11]; rfl, rfl, rfl⟩ (fun p g1 g2 => ?_)
  · have hp := hT.2.2.2.2.1 p g1 g2
    rw [pne (t + 4) (by omega) (by omega), pne (t + 6) (by omega) (by omega)]
    refine ⟨⟨hp.2.2.2.1.1, hR.2.2.2.2.2 p g1 g2⟩, ?_, hp.2.2.2.2.2.1⟩
    rw [p5]
    split
    · exact Or.inl rfl
    · exact hp.2.2.2.2.1
  · obtain ⟨e, e7⟩ := hR.2.2.2.2.1 p g1 g2
    rw [pne (t + 4) (by omega) (by omega), pne (t + 6) (by omega) (by omega)]
    refine ⟨⟨rfl, rfl, rfl, e.2.2.2.1, ?_, e.2.2.2.2.2⟩, fun i i1 i2 => by rw [pne _ (by omega) (by omega)]; exact e7 i i1 i2⟩
    rw [p5]
    have sp := hTS.1 p g1 (by rw [hR.2.2.1.1]; exact g2)
    show _ = if (5 : Int) = 0 ∧ p = 11 then s else if (5 : Int) = 5 ∧ G 3 p = s then 0 else G 5 p
    rw [if_neg (show ¬ ((5 : Int) = 0 ∧ p = 11) by omega), ← e.2.2.1]
    by_cases b : c (t + 3) p = s
    · rw [b] at sp
      rw [if_pos ⟨by omega, sp.symm⟩, if_pos ⟨rfl, b⟩]
    · rw [if_neg (fun q => b (by have := (hTS.2 s hs.1 hs.2 q.1).2; rw [← q.2] at this; exact this)), if_neg (fun q => b q.2)]
      exact e.2.2.2.2.1
theorem g_pourAt {H : hf} {G : ct} {K : SK} {d : Nat} {c : ct} {Q : ct → Prop} {t s : Int} (ht : isTab t) (hR : RT H c t G) (hs : 0 ≤ s ∧ s < 6) (h : RT H (pourC c t s) t (poG G s) → Q (pourC c t s)) : CV K (d + 1) mX6_pourAt [(2, t), (0, s)] c Q :=
  k_X6_pourAt ht hR.1.1 hs (h (RT_pour ht hR hs))
/-- m years on -/
def yrG (H : hf) (G : ct) (m : Nat) : ct := fun k j => if k = 0 ∧ j = 12 then G 0 12 + m
  else if k = 5 then yE (fun Y => fdG H G Y j) (H (G 0 13) 1 (fun _ => 0)) (G 6 j) m (G 0 12) (G 5 j)
  else if k = 4 then yU (fun Y => fdG H G Y j) (H (G 0 13) 1 (fun _ => 0)) (G 6 j) m (G 0 12) (G 5 j) (G 4 j) else G k j
theorem g_yearsGo {H : hf} {G : ct} {K : SK} {d : Nat} {c : ct} {Q : ct → Prop} {t m : Int} (ht : isTab t) (hR : RT H c t G) (hm : 0 ≤ m ∧ m ≤ 100) (hy : G 0 12 + m ≤ 20000) (h : ∀ c', offYr c c' t → (∀ p, ¬ (0 ≤ p ∧ p < c t 10) → c' (t + 5) p = c (t + 5) p ∧ c' (t + 4) p = c (t + 4) p) → RT H c' t (yrG H G m.toNat) → Q c') : CV K (d + 5) mX6_yearsGo [(2, t), (0, m)] c Q := by
  have hR' := hR
  obtain ⟨hTI, hTS, ⟨e10, e11, e12, e13, e14, e15⟩, hH, hE, hU⟩ := hR
  have hT := hTI.1
  have hn := hT.1
  refine k_X6_yearsGo ht hTI hm (by rw [e12]; exact hy) (fun p g1 g2 => by have := hU p g1 g2; omega) (fun c' hY => ?_)
  obtain ⟨ho, h12, hTI', hin, hout⟩ := hY
  have r1 : ∀ j, c' (t + 1) j = c (t + 1) j := ho.1 _ (by omega) (by omega) (by omega) (by omega) (by omega)
  have r2 : ∀ j, c' (t + 2) j = c (t + 2) j := ho.1 _ (by omega) (by omega) (by omega) (by omega) (by omega)
  have r3 : ∀ j, c' (t + 3) j = c (t + 3) j := ho.1 _ (by omega) (by omega) (by omega) (by omega) (by omega)
  have r6 : ∀ j, c' (t + 6) j = c (t + 6) j := ho.1 _ (by omega) (by omega) (by omega) (by omega) (by omega)
  have r7 : ∀ j, c' (t + 7) j = c (t + 7) j := ho.1 _ (by omega) (by omega) (by omega) (by omega) (by omega)
  have r8 : ∀ j, c' (t + 8) j = c (t + 8) j := ho.1 _ (by omega) (by omega) (by omega) (by omega) (by omega)
  have z10 := ho.2 10 (by decide)
  have z11 := ho.2 11 (by decide)
  have z13 := ho.2 13 (by decide)
  have hh := ho.hou ht hT.2.2.2.1
  have yy : yrG H G m.toNat 0 12 = G 0 12 + m.toNat := by simp [yrG]
  have y0 : ∀ j, j ≠ 12 → yrG H G m.toNat 0 j = G 0 j := fun j a => by simp [yrG, a]
  refine h c' ho hout ⟨hTI', ?_, ?_, ?_, fun p g1 g2 => ?_, fun p g1 g2 => ?_⟩
  · unfold TS at hTS ⊢; simp only [z10, r3, r8]; exact hTS
  · rw [z10, z11, z13, h12, yy, y0 10 (by decide), y0 11 (by decide), y0 13 (by decide), e12]
    exact ⟨e10, e11, rfl, e13, e14, e15⟩
  · rw [y0 13 (by decide)]; rw [e13] at hh; exact HR_congr hH hh
  · rw [y0 10 (by decide)] at g2
    obtain ⟨e, e7⟩ := hE p g1 g2
    rw [r1, r2, r3, r6]
    simp only [r7]
    have hf : (fun Y => fondL c t Y p) = fun Y => fdG H G Y p := funext fun Y => fond_G hR' ⟨g1, g2⟩
    obtain ⟨i1, i2⟩ := hin p g1 (by omega)
    rw [hf, e13, (hH.2 (fun _ => 0)).2.1, e.2.2.2.2.2, e12, e.2.2.2.2.1] at i1 i2
    rw [e.2.2.2.1] at i2
    have a5 : yrG H G m.toNat 5 p = yE (fun Y => fdG H G Y p) (H (G 0 13) 1 (fun _ => 0)) (G 6 p) m.toNat (G 0 12) (G 5 p) := by simp [yrG]
    have a4 : yrG H G m.toNat 4 p = yU (fun Y => fdG H G Y p) (H (G 0 13) 1 (fun _ => 0)) (G 6 p) m.toNat (G 0 12) (G 5 p) (G 4 p) := by simp [yrG]
    have a7 : ∀ j, yrG H G m.toNat 7 j = G 7 j := fun j => by simp [yrG]
    have a1 : yrG H G m.toNat 1 p = G 1 p := by simp [yrG]
    have a2 : yrG H G m.toNat 2 p = G 2 p := by simp [yrG]
    have a3 : yrG H G m.toNat 3 p = G 3 p := by simp [yrG]
    have a6 : yrG H G m.toNat 6 p = G 6 p := by simp [yrG]
    rw [a1, a2, a3, a4, a5, a6]
    exact ⟨⟨e.1, e.2.1, e.2.2.1, i2, i1, e.2.2.2.2.2⟩, fun i k1 k2 => by rw [a7]; exact e7 i k1 k2⟩
  · have hu := hU p g1 g2
    by_cases z : p < c t 10
    · rw [(hin p g1 z).2, h12]
      have := (yU_bd (f := fun Y => fondL c t Y p) (th := c (c t 13) 5) (g := c (t + 6) p) m.toNat (c t 12) (c (t + 5) p) (c (t + 4) p) (hT.2.2.2.2.1 p g1 g2).2.2.2.2.1).2
      omega
    · rw [(hout p (by omega)).2, h12]; omega
/-- all is reckoned anew -/
theorem g_reckon {H : hf} {G : ct} {K : SK} {d : Nat} {c : ct} {Q : ct → Prop} {t : Int} (ht : isTab t) (hT : TR c t) (hTS : TS c t) (hs : c t 10 = G 0 10 ∧ c t 11 = G 0 11 ∧ c t 12 = G 0 12 ∧ c t 13 = hou (G 0 13) ∧ -1 ≤ G 0 13 ∧ G 0 13 < 6) (hH : HR H c (G 0 13))
    (hE : ∀ p, 0 ≤ p → p < G 0 10 → (c (t + 1) p = G 1 p ∧ c (t + 2) p = G 2 p ∧ c (t + 3) p = G 3 p ∧ c (t + 4) p = G 4 p ∧ c (t + 5) p = G 5 p ∧ c (t + 6) p = G 6 p) ∧ ∀ i, 0 ≤ i → i < 4 → c (t + 7) (p * 4 + i) = G 7 (p * 4 + i))
    (hU : ∀ p, 0 ≤ p → p < 6 → c (t + 4) p ≤ c t 12) (h : ∀ c', off910 c c' t → RT H c' t G → Q c') : CV K (d + 4) mX6_reckon [(2, t)] c Q := by
  have hW : WFH c (c t 13) := by rw [hs.2.2.2.1]; exact hH.1
  refine k_X6_reckon ht hT hW (fun c' ho hb h9 => h c' ho ?_)
  have hh : ∀ k, c t 13 ≤ k → k ≤ c t 13 + 3 → ∀ j, c' k j = c k j := by
    intro k h1 h2 j
    have := hou_far hT.2.2.2.1 ht h1 h2
    exact ho k this.1 this.2.1 j
  have r0 : ∀ j, c' t j = c t j := ho t (by omega) (by omega)
  have r1 : ∀ j, c' (t + 1) j = c (t + 1) j := ho _ (by omega) (by omega)
  have r2 : ∀ j, c' (t + 2) j = c (t + 2) j := ho _ (by omega) (by omega)
  have r3 : ∀ j, c' (t + 3) j = c (t + 3) j := ho _ (by omega) (by omega)
  have r4 : ∀ j, c' (t + 4) j = c (t + 4) j := ho _ (by omega) (by omega)
  have r5 : ∀ j, c' (t + 5) j = c (t + 5) j := ho _ (by omega) (by omega)
  have r6 : ∀ j, c' (t + 6) j = c (t + 6) j := ho _ (by omega) (by omega)
  have r7 : ∀ j, c' (t + 7) j = c (t + 7) j := ho _ (by omega) (by omega)
  have r8 : ∀ j, c' (t + 8) j = c (t + 8) j := ho _ (by omega) (by omega)
  have hTS' : TS c' t := by unfold TS at hTS ⊢; simp only [r0, r3, r8]; exact hTS
  refine ⟨⟨TR_910 hT ho h9, by rw [r0]; exact WFH_congr hW hh, ts_SIT hTS' (by rw [r0]; exact hT.1.1), ?_⟩, hTS', by simp only [r0]; exact hs, ?_, ?_, ?_⟩
  · intro p q g1 g2 g3 g4
    rw [r0] at g2 g4
    rw [hb p q g1 g2 g3 g4, lkA_congr ht hT.2.2.2.1 hW ho]
  · rw [hs.2.2.2.1] at hh; exact HR_congr hH hh
  · simp only [r1, r2, r3, r4, r5, r6, r7]; exact hE
  · simp only [r0, r4]; exact hU
def hoG (G : ct) (i : Int) : ct := fun k j => if k = 0 ∧ j = 13 then i else G k j
theorem g_hold {H : hf} {G : ct} {K : SK} {d : Nat} {c : ct} {Q : ct → Prop} {t i : Int} (ht : isTab t) (hR : RT H c t G) (hi : -1 ≤ i ∧ i < 6) (hH : HR H c i) (h : ∀ c', (∀ k, k ≠ t → k ≠ t + 9 → k ≠ t + 10 → ∀ j, c' k j = c k j) → c' t 10 = c t 10 → RT H c' t (hoG G i) → Q c') : CV K (d + 5) mX6_hold [(2, t), (2, hou i)] c Q := by
  obtain ⟨⟨hT, hW, hS, hB⟩, hTS, ⟨e10, e11, e12, e13, e14, e15⟩, -, hE, hU⟩ := hR
  refine e_X6_hold t ht _ (hou_is hi) (s_X6_hold_0 t ht _ (hou_is hi) (fun c1 e1 => ?_))
  have r : ∀ k, k ≠ t → ∀ j, c1 k j = c k j := fun k a j => by subst e1; exact up2_ne1 a
  have r0 : ∀ j, j ≠ 13 → c1 t j = c t j := fun j a => by subst e1; exact up2_ne2 a
  have r13 : c1 t 13 = hou i := by subst e1; exact up2_self
  clear e1
  have n1 : ∀ j, c1 (t + 1) j = c (t + 1) j := r _ (by omega)
  have n2 : ∀ j, c1 (t + 2) j = c (t + 2) j := r _ (by omega)
  have n3 : ∀ j, c1 (t + 3) j = c (t + 3) j := r _ (by omega)
  have n4 : ∀ j, c1 (t + 4) j = c (t + 4) j := r _ (by omega)
  have n5 : ∀ j, c1 (t + 5) j = c (t + 5) j := r _ (by omega)
  have n6 : ∀ j, c1 (t + 6) j = c (t + 6) j := r _ (by omega)
  have n7 : ∀ j, c1 (t + 7) j = c (t + 7) j := r _ (by omega)
  have n8 : ∀ j, c1 (t + 8) j = c (t + 8) j := r _ (by omega)
  have n9 : ∀ j, c1 (t + 9) j = c (t + 9) j := r _ (by omega)
  have z10 := r0 10 (by decide)
  have z11 := r0 11 (by decide)
  have z12 := r0 12 (by decide)
  refine g_reckon (G := hoG G i) (H := H) ht ?_ ?_ ?_ ?_ ?_ ?_ (fun c' ho hR' => h c' (fun k a1 a2 a3 j => (ho k a2 a3 j).trans (r k a1 j)) ((ho t (by omega) (by omega) _).trans z10) hR')
  · unfold TR at hT ⊢
    simp only [z10, z11, z12, r13, n1, n2, n3, n4, n5, n6, n7, n8, n9]
    exact ⟨hT.1, hT.2.1, hT.2.2.1, hou_is hi, hT.2.2.2.2⟩
  · unfold TS at hTS ⊢; simp only [z10, n3, n8]; exact hTS
  · rw [z10, z11, z12, r13]; exact ⟨e10, e11, e12, rfl, hi⟩
  · refine HR_congr hH (fun k (h1 : hou i ≤ k) (h2 : k ≤ hou i + 3) j => r k ?_ j)
    have hh := hou_is hi
    unfold isHou at hh; unfold isTab at ht; omega
  · simp only [n1, n2, n3, n4, n5, n6, n7]; exact hE
  · simp only [z12, n4]; exact hU
def vG (G : ct) (g v : Int) : ct := fun k j => if k = 2 ∧ j = g then v else G k j
theorem g_becomeV {H : hf} {G : ct} {K : SK} {d : Nat} {c : ct} {Q : ct → Prop} {t g v : Int} (ht : isTab t) (hR : RT H c t G) (hg : 0 ≤ g ∧ g < 6) (hv : 0 ≤ v ∧ v ≤ 9) (h : ∀ c', offT c c' t → RT H c' t (vG G g v) → Q c') : CV K (d + 5) mX6_becomeV [(2, t), (0, g), (0, v)] c Q := by
  obtain ⟨⟨hT, hW, hS, hB⟩, hTS, ⟨e10, e11, e12, e13, e14, e15⟩, hH, hE, hU⟩ := hR
  refine e_X6_becomeV t ht _ _ (s_X6_becomeV_0 t ht _ _ ⟨hg, fun c1 e1 => ?_⟩)
  have r : ∀ k, k ≠ t + 2 → ∀ j, c1 k j = c k j := fun k a j => by subst e1; exact up2_ne1 a
  have r2 : ∀ j, c1 (t + 2) j = if j = g then v else c (t + 2) j := fun j => by subst e1; simp only [up2, true_and]
  clear e1
  have n0 : ∀ j, c1 t j = c t j := r _ (by omega)
  have n1 : ∀ j, c1 (t + 1) j = c (t + 1) j := r _ (by omega)
  have n3 : ∀ j, c1 (t + 3) j = c (t + 3) j := r _ (by omega)
  have n4 : ∀ j, c1 (t + 4) j = c (t + 4) j := r _ (by omega)
  have n5 : ∀ j, c1 (t + 5) j = c (t + 5) j := r _ (by omega)
  have n6 : ∀ j, c1 (t + 6) j = c (t + 6) j := r _ (by omega)
  have n7 : ∀ j, c1 (t + 7) j = c (t + 7) j := r _ (by omega)
  have n8 : ∀ j, c1 (t + 8) j = c (t + 8) j := r _ (by omega)
  have n9 : ∀ j, c1 (t + 9) j = c (t + 9) j := r _ (by omega)
  refine g_reckon (G := vG G g v) (H := H) ht ?_ ?_ ?_ ?_ ?_ ?_ (fun c' ho hR' => h c' (fun k a j => (ho k (by omega) (by omega) j).trans (r k (by omega) j)) hR')
  · obtain ⟨h1, h2, h3, h4, h5, h6, h7⟩ := hT
    refine ⟨by rw [n0]; exact h1, by rw [n0]; exact h2, by rw [n0]; exact h3, by rw [n0]; exact h4, fun p g1 g2 => ?_, by simp only [n7]; exact h6, by simp only [n9]; exact h7⟩
    have hp := h5 p g1 g2
    rw [n1, n3, n4, n5, n6, n8]
    refine ⟨hp.1, ?_, hp.2.2⟩
    rw [r2]
    split
    · exact hv
    · exact hp.2.1
  · unfold TS at hTS ⊢; simp only [n0, n3, n8]; exact hTS
  · simp only [n0]; exact ⟨e10, e11, e12, e13, e14, e15⟩
  · refine HR_congr hH (fun k (h1 : hou (G 0 13) ≤ k) (h2 : k ≤ hou (G 0 13) + 3) j => r k ?_ j)
    have hh := hou_is (i := G 0 13) ⟨e14, e15⟩
    unfold isHou at hh; unfold isTab at ht; omega
  · intro p g1 g2
    obtain ⟨e, e7⟩ := hE p g1 g2
    rw [n1, n3, n4, n5, n6, r2]
    simp only [n7]
    refine ⟨⟨e.1, ?_, e.2.2⟩, e7⟩
    show _ = if (2 : Int) = 2 ∧ p = g then v else G 2 p
    by_cases a : p = g
    · rw [if_pos a, if_pos ⟨rfl, a⟩]
    · rw [if_neg a, if_neg (fun q => a q.2)]; exact e.2.1
  · simp only [n0, n4]; exact hU
theorem pig : ∀ (n : Nat) (g : Nat → Nat), (∀ i, i ≤ n → g i < n) → ∃ i j, i < j ∧ j ≤ n ∧ g i = g j := by
  intro n
  induction n with
  | zero => intro g h; exact absurd (h 0 (Nat.le_refl 0)) (by omega)
  | succ n ih =>
    intro g h
    by_cases e : ∃ i, i ≤ n ∧ g i = g (n + 1)
    · obtain ⟨i, h1, h2⟩ := e
      exact ⟨i, n + 1, by omega, by omega, h2⟩
    · obtain ⟨i, j, h1, h2, h3⟩ := ih (fun i => if g i = n then g (n + 1) else g i) (fun i hi => by
        have a := h i (by omega)
        have b := h (n + 1) (by omega)
        have d : g i ≠ g (n + 1) := fun q => e ⟨i, hi, q⟩
        show (if g i = n then g (n + 1) else g i) < n
        split <;> omega)
      have di : g i ≠ g (n + 1) := fun q => e ⟨i, by omega, q⟩
      have dj : g j ≠ g (n + 1) := fun q => e ⟨j, by omega, q⟩
      refine ⟨i, j, h1, by omega, ?_⟩
      have h3' : (if g i = n then g (n + 1) else g i) = if g j = n then g (n + 1) else g j := h3
      by_cases p : g i = n
      · by_cases q : g j = n
        · omega
        · rw [if_pos p, if_neg q] at h3'; exact absurd h3'.symm dj
      · by_cases q : g j = n
        · rw [if_neg p, if_pos q] at h3'; exact absurd h3' di
        · rw [if_neg p, if_neg q] at h3'; exact h3'
/-- the first seat where nobody sits -/
def fre (G : ct) (s : Int) : Prop := (0 ≤ s ∧ s < 6) ∧ (∀ p, 0 ≤ p → p < G 0 10 → G 3 p ≠ s) ∧ ∀ q, 0 ≤ q → q < s → ∃ p, 0 ≤ p ∧ p < G 0 10 ∧ G 3 p = q
theorem fre_one {G : ct} {s r : Int} (h : fre G s) (h' : fre G r) : s = r := by
  by_cases a : s < r
  · obtain ⟨p, p1, p2, p3⟩ := h'.2.2 s h.1.1 a
    exact absurd p3 (h.2.1 p p1 p2)
  · by_cases b : r < s
    · obtain ⟨p, p1, p2, p3⟩ := h.2.2 r h'.1.1 b
      exact absurd p3 (h'.2.1 p p1 p2)
    · omega
def tkG (G : ct) (k v s : Int) : ct := fun a j => if a = 0 then (if j = 10 then G 0 10 + 1 else G 0 j) else if a = 7 then (if 4 * G 0 10 ≤ j ∧ j < 4 * G 0 10 + 4 then 0 else G 7 j)
  else if (1 ≤ a ∧ a ≤ 6) ∧ j = G 0 10 then (if a = 1 then k else if a = 2 then v else if a = 3 then s else 0) else G a j
/-- beyond the guests all is as at first -/
def ZB (c : ct) (t : Int) : Prop := ∀ p, c t 10 ≤ p → p < 6 → c (t + 4) p = 0 ∧ c (t + 5) p = 0 ∧ c (t + 6) p = 0 ∧ ∀ i, 0 ≤ i → i < 4 → c (t + 7) (p * 4 + i) = 0
