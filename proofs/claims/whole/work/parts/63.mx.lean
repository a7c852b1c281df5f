/-! CONTRACTS: the reference's moves -/
theorem sm_one {f g : Int → Int} {m : Nat} {i k : Int} (hk : i ≤ k ∧ k < i + m) (h : ∀ p, i ≤ p → p < i + m → p ≠ k → g p = f p) : smR g m i = smR f m i + (g k - f k) := by
  have e : smR g m i = smR (fun p => f p + (if p = k then g k - f k else 0)) m i := smR_congr _ _ (fun p a b => by
    by_cases z : p = k
    · subst z; simp; omega
    · simp only [if_neg z, h p a b z]; omega)
  rw [e, sm_add, sm_pick (w := k) _ _ hk.1 hk.2 (fun j _ _ ne => if_neg ne), if_pos rfl]
theorem mk_up {f g : Int → Int} {n k : Int} (hk : 0 ≤ k ∧ k < n) (h : ∀ p, 0 ≤ p → p < n → p ≠ k → g p = f p) : mkR g n = mkR f n + (g k - f k) * pw k := by
  unfold mkR
  rw [sm_one (f := fun p => f p * pw p) (k := k) ⟨hk.1, by omega⟩ (fun p a b z => by show g p * pw p = f p * pw p; rw [h p a (by omega) z]), Int.sub_mul]
theorem mk_congr {f g : Int → Int} {n : Int} (hn : 0 ≤ n) (h : ∀ p, 0 ≤ p → p < n → g p = f p) : mkR g n = mkR f n := smR_congr _ _ (fun p a b => by show g p * pw p = f p * pw p; rw [h p a (by omega)])
theorem and_not : ∀ m : Nat, m < 64 → ∀ k : Nat, k < 6 → bAnd (m : Int) (bXor (bShl 1 k) (-1)) = m - (m : Int) / pw k % 2 * pw k := by decide +kernel
theorem or_bit : ∀ m : Nat, m < 64 → ∀ k : Nat, k < 6 → bOr (m : Int) (bShl 1 k) = m + (1 - (m : Int) / pw k % 2) * pw k := by decide +kernel
theorem or_dis : ∀ a : Nat, a < 64 → ∀ b : Nat, b < 64 → (∀ k : Nat, k < 6 → (a : Int) / pw k % 2 = 0 ∨ (b : Int) / pw k % 2 = 0) → bOr (a : Int) b = a + b := by decide +kernel
theorem mk_clear {f : Int → Int} {n k : Int} (hn : 0 ≤ n ∧ n ≤ 6) (hf : ∀ p, 0 ≤ p → p < n → f p = 0 ∨ f p = 1) (hk : 0 ≤ k ∧ k < n) : bAnd (mkR f n) (bXor (bShl 1 k) (-1)) = mkR (fun p => if p = k then 0 else f p) n := by
  have b := mk_bit (k := k) hn hf ⟨hk.1, by omega⟩
  have a := and_not (mkR f n).toNat (by omega) k.toNat (by omega)
  rw [show (((mkR f n).toNat : Nat) : Int) = mkR f n by omega, show ((k.toNat : Nat) : Int) = k by omega] at a
  rw [a, b.2, if_pos hk.2, mk_up (f := f) (g := fun p => if p = k then 0 else f p) hk (fun p _ _ z => if_neg z), if_pos rfl, Int.sub_mul]
  omega
theorem mk_put {f : Int → Int} {n k : Int} (hn : 0 ≤ n ∧ n ≤ 6) (hf : ∀ p, 0 ≤ p → p < n → f p = 0 ∨ f p = 1) (hk : 0 ≤ k ∧ k < n) : bOr (mkR f n) (bShl 1 k) = mkR (fun p => if p = k then 1 else f p) n := by
  have b := mk_bit (k := k) hn hf ⟨hk.1, by omega⟩
  have a := or_bit (mkR f n).toNat (by omega) k.toNat (by omega)
  rw [show (((mkR f n).toNat : Nat) : Int) = mkR f n by omega, show ((k.toNat : Nat) : Int) = k by omega] at a
  rw [a, b.2, if_pos hk.2, mk_up (f := f) (g := fun p => if p = k then 1 else f p) hk (fun p _ _ z => if_neg z), if_pos rfl]
theorem mk_or {f g : Int → Int} {n : Int} (hn : 0 ≤ n ∧ n ≤ 6) (hf : ∀ p, 0 ≤ p → p < n → f p = 0 ∨ f p = 1) (hg : ∀ p, 0 ≤ p → p < n → g p = 0 ∨ (g p = 1 ∧ f p = 0)) : bOr (mkR f n) (mkR g n) = mkR (fun p => f p + g p) n := by
  have hg' : ∀ p, 0 ≤ p → p < n → g p = 0 ∨ g p = 1 := fun p a b => (hg p a b).imp id And.left
  have b0 := (mk_bit (k := 0) hn hf ⟨by decide, by decide⟩).1
  have b1 := (mk_bit (k := 0) hn hg' ⟨by decide, by decide⟩).1
  have a := or_dis (mkR f n).toNat (by omega) (mkR g n).toNat (by omega) (fun k hk => by
    rw [show (((mkR f n).toNat : Nat) : Int) = mkR f n by omega, show (((mkR g n).toNat : Nat) : Int) = mkR g n by omega, (mk_bit (k := k) hn hf ⟨by omega, by omega⟩).2, (mk_bit (k := k) hn hg' ⟨by omega, by omega⟩).2]
    split
    · rename_i z
      rcases hg k (by omega) z with w | w
      · exact Or.inr w
      · exact Or.inl w.2
    · exact Or.inl rfl)
  rw [show (((mkR f n).toNat : Nat) : Int) = mkR f n by omega, show (((mkR g n).toNat : Nat) : Int) = mkR g n by omega] at a
  rw [a]
  unfold mkR
  rw [← sm_add]
  exact smR_congr _ _ (fun p _ _ => (Int.add_mul _ _ _).symm)
theorem MT_go {c G : ct} {p v : Int} (hM : MT c G) (hv : v = 0 ∨ v = 1) : MT (up2 c 108 1 (mkR (goG G p v 6) (G 0 10))) (goG G p v) := by
  obtain ⟨h0, h3, h4, h5, h1, h2, hr⟩ := hM
  refine ⟨by rw [up2_ne2 (by decide)]; exact h0, by rw [up2_ne2 (by decide)]; exact h3, by rw [up2_ne2 (by decide)]; exact h4, by rw [up2_ne2 (by decide)]; exact h5, up2_self, by rw [up2_ne2 (by decide)]; exact h2, fun q a b => ?_⟩
  obtain ⟨r1, r2, r3, r4, r5, r6, r7⟩ := hr q a b
  rw [up2_ne1 (by decide), up2_ne1 (by decide), up2_ne1 (by decide), up2_ne1 (by decide)]
  refine ⟨r1, r2, r3, r4, r5, ?_, fun i a b => by rw [up2_ne1 (by decide)]; exact r7 i a b⟩
  show (if (6 : Int) = 6 ∧ q = p then v else G 6 q) = 0 ∨ (if (6 : Int) = 6 ∧ q = p then v else G 6 q) = 1
  split
  · exact hv
  · exact r6
theorem m_goes {c G : ct} {K : SK} {d : Nat} {Q : ct → Prop} {p v : Int} (hM : MT c G) (hp : 0 ≤ p ∧ p < G 0 10) (hv : v = 0 ∨ v = 1) (h : MT (up2 c 108 1 (mkR (goG G p v 6) (G 0 10))) (goG G p v) → Q (up2 c 108 1 (mkR (goG G p v 6) (G 0 10)))) : CV K (d + 1) mX9_goes [(2, 108), (0, p), (0, v)] c Q := by
  have h' := h (MT_go hM hv)
  have e1 := hM.2.2.2.2.1
  have g6 : goG G p v 6 = fun q => if q = p then v else G 6 q := by funext q; simp [goG]
  rw [g6] at h'
  have h01 : ∀ q, 0 ≤ q → q < G 0 10 → G 6 q = 0 ∨ G 6 q = 1 := fun q a b => (hM.2.2.2.2.2.2 q a b).2.2.2.2.2.1
  refine e_X9_goes p v (s_X9_goes_0 p v ?_)
  rw [e1]
  refine ⟨fun z c2 h2 => ?_, fun z => ⟨ir_01 hv, fun c3 h3 => ?_⟩⟩
  · rw [mk_clear hM.1.2 h01 hp] at h2
    rw [h2]; subst z; exact h'
  · rw [mk_put hM.1.2 h01 hp] at h3
    have : v = 1 := by omega
    rw [h3]; subst this; exact h'
theorem whG_r {c G : ct} {s : Int} (hM : MT c G) : whG G s = -5 ∨ (0 ≤ whG G s ∧ whG G s < G 0 10 ∧ G 3 (whG G s) = s) := by
  have hn := hM.1
  rcases wsR_or (f := G 3) (s := s) (G 0 10).toNat 0 with e | ⟨e1, e2, e3⟩
  · exact Or.inl e
  · exact Or.inr ⟨e1, by have : whG G s < 0 + ((G 0 10).toNat : Int) := e2; omega, e3⟩
theorem whG_no {G : ct} {s : Int} (h : whG G s < 0) : ∀ p, 0 ≤ p → p < G 0 10 → G 3 p ≠ s := fun p a b => wsR_none (f := G 3) (s := s) (G 0 10).toNat 0 (by decide) h p a (by omega)
theorem m_who {c G : ct} {K : SK} {d : Nat} {Q : ct → Int → Prop} {s : Int} (hM : MT c G) (hs : ir s) (h : Q c (whG G s)) : CI K (d + 1) mX9_whoSits [(2, 108), (0, s)] c Q :=
  m_whoSits hs hM.1 (fun p a b => (hM.2.2.2.2.2.2 p a b).2.2.1) h
theorem MT_pot {c G : ct} {s : Int} (hM : MT c G) (hs : 0 ≤ s ∧ s < 6) : MT (up2 c 108 3 s) (fun k j => if k = 0 ∧ j = 11 then s else G k j) := by
  obtain ⟨h0, h3, h4, h5, h1, h2, hr⟩ := hM
  refine ⟨by rw [up2_ne2 (by decide)]; exact h0, ⟨by rw [up2_self]; rfl, hs⟩, by rw [up2_ne2 (by decide)]; exact h4, by rw [up2_ne2 (by decide)]; exact h5, by rw [up2_ne2 (by decide)]; exact h1, by rw [up2_ne2 (by decide)]; exact h2, fun q a b => ?_⟩
  rw [up2_ne1 (by decide), up2_ne1 (by decide), up2_ne1 (by decide), up2_ne1 (by decide)]
  obtain ⟨r1, r2, r3, r4, r5, r6, r7⟩ := hr q a b
  exact ⟨r1, r2, r3, r4, r5, r6, fun i a b => by rw [up2_ne1 (by decide)]; exact r7 i a b⟩
/-- a table told by another G that says the same -/
theorem MT_G {c G G' : ct} (hM : MT c G) (h0 : ∀ j, 10 ≤ j → j ≤ 13 → G' 0 j = G 0 j) (h : ∀ p, 0 ≤ p → p < G 0 10 → (G' 1 p = G 1 p ∧ G' 2 p = G 2 p ∧ G' 3 p = G 3 p ∧ G' 4 p = G 4 p ∧ G' 5 p = G 5 p ∧ G' 6 p = G 6 p) ∧ ∀ i, 0 ≤ i → i < 4 → G' 7 (p * 4 + i) = G 7 (p * 4 + i)) : MT c G' := by
  obtain ⟨b0, b3, b4, b5, b1, b2, hr⟩ := hM
  unfold MT
  rw [h0 10 (by decide) (by decide), h0 11 (by decide) (by decide), h0 12 (by decide) (by decide), h0 13 (by decide) (by decide)]
  refine ⟨b0, b3, b4, b5, ?_, ?_, fun p a b => ?_⟩
  · rw [b1]; exact (mk_congr b0.2.1 (fun p a b => (h p a b).1.2.2.2.2.2)).symm
  · rw [b2]; exact (mk_congr b0.2.1 (fun p a b => (h p a b).1.2.2.2.2.1)).symm
  · obtain ⟨⟨e1, e2, e3, e4, e5, e6⟩, e7⟩ := h p a b
    obtain ⟨r1, r2, r3, r4, r5, r6, r7⟩ := hr p a b
    rw [e1, e2, e3, e4, e5, e6]
    exact ⟨r1, r2, r3, r4, r5, r6, fun i i0 i1 => by rw [e7 i i0 i1]; exact r7 i i0 i1⟩
/-- what a trial's steps may change -/
def stP (k j : Int) : Prop := k = 123 ∨ k = 124 ∨ ((k = 111 ∨ k = 112) ∧ 0 ≤ j ∧ j < 6) ∨ (k = 108 ∧ 1 ≤ j ∧ j ≤ 4)
def offS (c c' : ct) : Prop := ∀ k j, ¬ stP k j → c' k j = c k j
theorem offS.rf {c : ct} : offS c c := fun _ _ _ => rfl
theorem offS.trans {c c1 c2 : ct} (h1 : offS c c1) (h2 : offS c1 c2) : offS c c2 := fun k j a => (h2 k j a).trans (h1 k j a)
theorem offL.S {c c' : ct} (h : offL c c') : offS c c' := fun k j a => h k (fun q => a (Or.inl q)) (fun q => a (Or.inr (Or.inl q))) j
theorem m_pours {c G : ct} {K : SK} {d : Nat} {Q : ct → Prop} {s : Int} (hM : MT c G) (hD : DS G) (hs : 0 ≤ s ∧ s < 6) (h : ∀ c', (∀ k j, ¬ (k = 108 ∧ (j = 2 ∨ j = 3)) → c' k j = c k j) → MT c' (poG G s) → Q c') : CV K (d + 2) mX9_pours [(2, 108), (0, s)] c Q := by
  have hP := MT_pot hM hs
  have n6 := hM.1
  have fr : ∀ k j, ¬ (k = 108 ∧ (j = 2 ∨ j = 3)) → up2 c 108 3 s k j = c k j := fun k j a => by
    unfold up2
    rw [if_neg (fun q => a ⟨q.1, Or.inr q.2⟩)]
  refine e_X9_pours s (s_X9_pours_0 s (fun c1 h1 => ?_))
  subst h1
  refine m_who hP ⟨by omega, by omega⟩ ?_
  have hw : whG G s = -5 ∨ (0 ≤ whG G s ∧ whG G s < G 0 10 ∧ G 3 (whG G s) = s) := whG_r (s := s) hM
  rw [show whG (fun k j => if k = 0 ∧ j = 11 then s else G k j) s = whG G s from rfl]
  refine ⟨⟨by omega, by omega⟩, fun z => ?_, fun z c6 h6 => ?_⟩
  · refine h _ fr (MT_G hP (fun j a b => ?_) (fun p a b => ⟨⟨rfl, rfl, rfl, rfl, ?_, rfl⟩, fun i _ _ => rfl⟩))
    · show (if (0 : Int) = 0 ∧ j = 11 then s else if (0 : Int) = 5 ∧ G 3 j = s then 0 else G 0 j) = if (0 : Int) = 0 ∧ j = 11 then s else G 0 j
      by_cases w : j = 11
      · rw [if_pos ⟨rfl, w⟩, if_pos ⟨rfl, w⟩]
      · rw [if_neg (fun q => w q.2), if_neg (fun q => absurd q.1 (by decide)), if_neg (fun q => w q.2)]
    · have := whG_no z p a b
      show (if (5 : Int) = 0 ∧ p = 11 then s else if (5 : Int) = 5 ∧ G 3 p = s then 0 else G 5 p) = if (5 : Int) = 0 ∧ p = 11 then s else G 5 p
      rw [if_neg (fun q => by omega), if_neg (fun q => this q.2), if_neg (fun q => by omega)]
  · obtain ⟨w0, w1, w3⟩ : 0 ≤ whG G s ∧ whG G s < G 0 10 ∧ G 3 (whG G s) = s := by omega
    have e2 : up2 c 108 3 s 108 2 = mkR (G 5) (G 0 10) := by rw [up2_ne2 (by decide)]; exact hM.2.2.2.2.2.1
    rw [e2, mk_clear hM.1.2 (fun q a b => (hM.2.2.2.2.2.2 q a b).2.2.2.2.1) ⟨w0, w1⟩] at h6
    subst h6
    have p5 : ∀ p, 0 ≤ p → p < G 0 10 → (if p = whG G s then 0 else G 5 p) = poG G s 5 p := fun p a b => by
      show _ = (if (5 : Int) = 0 ∧ p = 11 then s else if (5 : Int) = 5 ∧ G 3 p = s then 0 else G 5 p)
      rw [if_neg (show ¬ ((5 : Int) = 0 ∧ p = 11) by omega)]
      by_cases z2 : G 3 p = s
      · rw [if_pos (hD p _ a b w0 w1 (by rw [w3]; exact z2)), if_pos ⟨rfl, z2⟩]
      · rw [if_neg (fun q => z2 (by rw [q]; exact w3)), if_neg (fun q => z2 q.2)]
    refine h _ (fun k j a => ?_) ?_
    · rw [show up2 (up2 c 108 3 s) 108 2 (mkR (fun p => if p = whG G s then 0 else G 5 p) (G 0 10)) k j = up2 c 108 3 s k j from by
        conv => lhs; unfold up2
        rw [if_neg (fun q => a ⟨q.1, Or.inl q.2⟩)]
        rfl]
      exact fr k j a
    · obtain ⟨b0, b3, b4, b5, b1, b2, hr⟩ := hP
      refine ⟨by rw [up2_ne2 (by decide)]; exact b0, ⟨by rw [up2_ne2 (by decide), up2_self]; rfl, hs⟩, by rw [up2_ne2 (by decide)]; exact b4, by rw [up2_ne2 (by decide)]; exact b5, by rw [up2_ne2 (by decide)]; exact b1, by rw [up2_self]; exact mk_congr n6.2.1 p5, fun q a b => ?_⟩
      rw [up2_ne1 (by decide), up2_ne1 (by decide), up2_ne1 (by decide), up2_ne1 (by decide)]
      obtain ⟨r1, r2, r3, r4, r5, r6, r7⟩ := hr q a b
      refine ⟨r1, r2, r3, r4, ?_, r6, fun i a b => by rw [up2_ne1 (by decide)]; exact r7 i a b⟩
      rw [← p5 q a b]
      split
      · exact Or.inl rfl
      · exact r5
theorem DS_mv {G : ct} {g s : Int} (hD : DS G) (hg : 0 ≤ g ∧ g < G 0 10) : DS (mvG G g s) := by
  intro p q a b a2 b2 e
  have e : (if p = g then s else if G 3 p = s then G 3 g else G 3 p) = (if q = g then s else if G 3 q = s then G 3 g else G 3 q) := e
  by_cases z1 : p = g
  · by_cases z2 : q = g
    · omega
    · rw [if_pos z1, if_neg z2] at e
      by_cases z3 : G 3 q = s
      · rw [if_pos z3] at e
        have := hD g q hg.1 hg.2 a2 b2 (by omega)
        omega
      · rw [if_neg z3] at e; omega
  · rw [if_neg z1] at e
    by_cases z2 : q = g
    · rw [if_pos z2] at e
      by_cases z3 : G 3 p = s
      · rw [if_pos z3] at e
        have := hD g p hg.1 hg.2 a b (by omega)
        omega
      · rw [if_neg z3] at e; omega
    · rw [if_neg z2] at e
      by_cases z3 : G 3 p = s
      · rw [if_pos z3] at e
        by_cases z4 : G 3 q = s
        · exact hD p q a b a2 b2 (by omega)
        · rw [if_neg z4] at e
          have := hD g q hg.1 hg.2 a2 b2 e
          omega
      · rw [if_neg z3] at e
        by_cases z4 : G 3 q = s
        · rw [if_pos z4] at e
          have := hD g p hg.1 hg.2 a b e.symm
          omega
        · rw [if_neg z4] at e
          exact hD p q a b a2 b2 e
theorem DS_same {G G' : ct} (hD : DS G) (h10 : G' 0 10 = G 0 10) (h3 : ∀ p, G' 3 p = G 3 p) : DS G' := by
  unfold DS at hD ⊢
  simp only [h10, h3]
  exact hD
theorem m_takesSeat {c G : ct} {K : SK} {d : Nat} {Q : ct → Prop} {p s : Int} (hM : MT c G) (hD : DS G) (hp : 0 ≤ p ∧ p < G 0 10) (hs : 0 ≤ s ∧ s < 6) (h : ∀ c', (∀ k j, ¬ (k = 111 ∧ 0 ≤ j ∧ j < 6) → c' k j = c k j) → MT c' (mvG G p s) → Q c') : CV K (d + 2) mX9_takesSeat [(2, 108), (0, p), (0, s)] c Q := by
  have n6 := hM.1
  obtain ⟨b0, b3, b4, b5, b1, b2, hr⟩ := id hM
  have ep : c 111 p = G 3 p := (hr p hp.1 hp.2).2.2.1.1
  have hw := whG_r (s := s) hM
  have mk : ∀ c', (∀ k j, ¬ (k = 111 ∧ 0 ≤ j ∧ j < 6) → c' k j = c k j) → (∀ q, 0 ≤ q → q < G 0 10 → c' 111 q = mvG G p s 3 q) → Q c' := by
    intro c' h1 h2
    refine h c' h1 ⟨by rw [h1 108 0 (by decide)]; exact b0, by rw [h1 108 3 (by decide)]; exact b3, by rw [h1 108 4 (by decide)]; exact b4, by rw [h1 108 11 (by decide)]; exact b5, by rw [h1 108 1 (by decide)]; exact b1, by rw [h1 108 2 (by decide)]; exact b2, fun q a b => ?_⟩
    obtain ⟨r1, r2, r3, r4, r5, r6, r7⟩ := hr q a b
    rw [h1 109 q (by omega), h1 110 q (by omega), h1 112 q (by omega)]
    refine ⟨r1, r2, ⟨h2 q a b, ?_⟩, r4, r5, r6, fun i a b => by rw [h1 113 _ (by omega)]; exact r7 i a b⟩
    show 0 ≤ (if q = p then s else if G 3 q = s then G 3 p else G 3 q) ∧ (if q = p then s else if G 3 q = s then G 3 p else G 3 q) < 6
    have := (hr p hp.1 hp.2).2.2.1.2
    split
    · exact hs
    · split
      · exact this
      · exact r3.2
  refine e_X9_takesSeat p s (s_X9_takesSeat_0 p s (m_who hM ⟨by omega, by omega⟩ ?_))
  rw [ep]
  refine ⟨⟨by omega, by omega⟩, fun z => ⟨⟨hp.1, by omega⟩, fun c5 h5 => ?_⟩, fun z => ⟨⟨hp.1, by omega⟩, ⟨by omega, by omega⟩, fun c8 h8 => ⟨⟨hp.1, by omega⟩, fun c10 h10 => ?_⟩⟩⟩
  · subst h5
    refine mk _ (fun k j a => ?_) (fun q a b => ?_)
    · unfold up2; rw [if_neg (by omega)]
    · show (if (111 : Int) = 111 ∧ q = p then s else c 111 q) = if q = p then s else if G 3 q = s then G 3 p else G 3 q
      have := whG_no z q a b
      rw [if_neg this, (hr q a b).2.2.1.1]
      by_cases w : q = p
      · rw [if_pos ⟨rfl, w⟩, if_pos w]
      · rw [if_neg (fun q => w q.2), if_neg w]
  · obtain ⟨w0, w1, w3⟩ : 0 ≤ whG G s ∧ whG G s < G 0 10 ∧ G 3 (whG G s) = s := by omega
    subst h8; subst h10
    refine mk _ (fun k j a => ?_) (fun q a b => ?_)
    · unfold up2; rw [if_neg (by omega), if_neg (by omega)]
    · show (if (111 : Int) = 111 ∧ q = p then s else if (111 : Int) = 111 ∧ q = whG G s then G 3 p else c 111 q) = if q = p then s else if G 3 q = s then G 3 p else G 3 q
      rw [(hr q a b).2.2.1.1]
      by_cases w : q = p
      · rw [if_pos ⟨rfl, w⟩, if_pos w]
      · rw [if_neg (fun q => w q.2), if_neg w]
        by_cases w2 : G 3 q = s
        · rw [if_pos ⟨rfl, hD q _ a b w0 w1 (by rw [w3]; exact w2)⟩, if_pos w2]
        · rw [if_neg (fun z => w2 (by rw [z.2]; exact w3)), if_neg w2]
