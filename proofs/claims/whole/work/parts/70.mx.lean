/-! CONTRACTS: the reference's public calls, fourth lot: told by hand -/
theorem MSR_rows {H : hf} {c c' N N' I X : ct} (h : MSR H c N I X) (hq : ∀ k j, ¬ ((k = 108 ∧ (j = 39 ∨ j = 44 ∨ j = 45)) ∨ (128 ≤ k ∧ k ≤ 130) ∨ (132 ≤ k ∧ k ≤ 135)) → c' k j = c k j) (hk : ∀ k, 1 ≤ k → k ≤ 19 → ∀ j, N' k j = N k j) (h0 : ∀ j, j < 20 → N' 0 j = N 0 j) (hR : MRW c' N') : MSR H c' N' I X :=
  MSR_now h (fun k j a => hq k j (fun q => a (by unfold nowP; omega))) ⟨MT_G (MT_congr h.1.1 (fun j _ => hq 108 j (by omega)) (fun k _ _ j => hq k j (by omega))) (fun j _ _ => h0 j (by omega)) (fun p _ _ => ⟨⟨hk 1 (by decide) (by decide) _, hk 2 (by decide) (by decide) _, hk 3 (by decide) (by decide) _, hk 4 (by decide) (by decide) _, hk 5 (by decide) (by decide) _, hk 6 (by decide) (by decide) _⟩, fun i _ _ => hk 7 (by decide) (by decide) _⟩), hR⟩
theorem n_zero {H : hf} {c N I X : ct} (hM : MSR H c N I X) {b f : Int} (hb : (b = 20 ∧ f = 39) ∨ (b = 24 ∧ f = 44) ∨ (b = 28 ∧ f = 45)) : MSR H (up2 c 108 f 0) (szG N b 0) I X := by
  refine MSR_rows hM (fun k j w => by unfold up2; rw [if_neg (by omega)]) (fun k a _ j => sz_k (by omega)) (fun j a => sz_0 (by omega)) ?_
  obtain ⟨⟨s0, s1⟩, ⟨p0, p1⟩, ⟨b0, b1⟩⟩ := hM.1.2
  have sk : ∀ k j, k ≠ 0 → szG N b 0 k j = N k j := fun k j a => sz_k a
  rcases hb with ⟨rfl, rfl⟩ | ⟨rfl, rfl⟩ | ⟨rfl, rfl⟩
  · refine ⟨⟨by rw [up2_self, sz_n], fun i a z => ?_⟩, ⟨by rw [up2_ne2 (by decide), sz_0 (by decide)]; exact p0, fun i a z => ?_⟩, ⟨by rw [up2_ne2 (by decide), sz_0 (by decide)]; exact b0, fun i a z => ?_⟩⟩
    · rw [up2_ne1 (by decide), up2_ne1 (by decide), up2_ne1 (by decide)]
      exact ⟨(s1 i a z).1, fun y => by rw [sz_n] at y; omega⟩
    · rw [sz_0 (by decide)] at z
      rw [up2_ne1 (by decide), up2_ne1 (by decide), sk 25 i (by decide), sk 26 i (by decide)]; exact p1 i a z
    · rw [sz_0 (by decide)] at z
      rw [up2_ne1 (by decide), up2_ne1 (by decide), sk 29 i (by decide), sk 30 i (by decide)]; exact b1 i a z
  · refine ⟨⟨by rw [up2_ne2 (by decide), sz_0 (by decide)]; exact s0, fun i a z => ?_⟩, ⟨by rw [up2_self, sz_n], fun i a z => ?_⟩, ⟨by rw [up2_ne2 (by decide), sz_0 (by decide)]; exact b0, fun i a z => ?_⟩⟩
    · rw [up2_ne1 (by decide), up2_ne1 (by decide), up2_ne1 (by decide), sz_0 (by decide), sk 21 i (by decide), sk 22 i (by decide), sk 23 i (by decide)]; exact s1 i a z
    · rw [sz_n] at z; omega
    · rw [sz_0 (by decide)] at z
      rw [up2_ne1 (by decide), up2_ne1 (by decide), sk 29 i (by decide), sk 30 i (by decide)]; exact b1 i a z
  · refine ⟨⟨by rw [up2_ne2 (by decide), sz_0 (by decide)]; exact s0, fun i a z => ?_⟩, ⟨by rw [up2_ne2 (by decide), sz_0 (by decide)]; exact p0, fun i a z => ?_⟩, ⟨by rw [up2_self, sz_n], fun i a z => ?_⟩⟩
    · rw [up2_ne1 (by decide), up2_ne1 (by decide), up2_ne1 (by decide), sz_0 (by decide), sk 21 i (by decide), sk 22 i (by decide), sk 23 i (by decide)]; exact s1 i a z
    · rw [sz_0 (by decide)] at z
      rw [up2_ne1 (by decide), up2_ne1 (by decide), sk 25 i (by decide), sk 26 i (by decide)]; exact p1 i a z
    · rw [sz_n] at z; omega
theorem n_see {H : hf} {c N I X : ct} {K : SK} {d : Nat} {Q : ct → Int → Prop} (hM : MSR H c N I X) (hP : PU N I X) {p e n : Int} (hp : ir p) (he : e = 0 ∨ e = 1) (hn : ir n) (hm : ∀ c', p = -1 → loM c c' → MSR H c' (szG N 20 0) I X → Q c' 0) (h0 : p ≠ -1 → ¬ isG N p → Q c (-1)) (h1 : isG N p → ¬ (0 ≤ n ∧ n ≤ 20) → Q c (-2)) (h2 : isG N p → 0 ≤ n → n ≤ 20 → N 0 20 = 5 → Q c (-4)) (h3 : ∀ c', isG N p → 0 ≤ n → n ≤ 20 → N 0 20 < 5 → loM c c' → MSR H c' (adG N 20 p e n) I X → Q c' (N 0 20 + 1)) : CI K (d + 3) mX9_see [(2, 108), (0, p), (0, e), (0, n)] c Q := by
  have hz := hP.1.2.2.1.1
  refine e_X9_see p e n (s_X9_see_0 p e n ⟨fun z c2 h2 => ?_, fun z => ⟨hp, m_isGuest hp hM.1.1.1 (fun y => bz (h0 z y)) (fun a b => bo (m_in (d := d + 1) hn ir01.1 ⟨by decide, by decide⟩ (fun y => bz (h1 ⟨a, b⟩ y)) (fun n0 n1 => bo ?_)))⟩⟩)
  · subst h2
    exact hm _ z (fun k w j => up2_ne1 (by omega)) (n_zero hM (Or.inl ⟨rfl, rfl⟩))
  · obtain ⟨⟨s0, s1⟩, ⟨p0, p1⟩, ⟨b0, b1⟩⟩ := hM.1.2
    rw [s0]
    refine ⟨fun y => h2 ⟨a, b⟩ n0 n1 y, fun y => ⟨⟨by omega, by omega⟩, ⟨by omega, by omega⟩, fun c10 h10 => ?_⟩⟩
    rw [show c10 108 39 = N 0 20 from by rw [h10, up2_ne1 (by decide)]; exact s0]
    refine ⟨⟨⟨by omega, by omega⟩, he⟩, fun c12 h12 => ?_⟩
    rw [show c12 108 39 = N 0 20 from by rw [h12, up2_ne1 (by decide), h10, up2_ne1 (by decide)]; exact s0]
    refine ⟨⟨by omega, by omega⟩, fun c14 h14 c16 h16 => ?_⟩
    rw [show c14 108 39 = N 0 20 from by rw [h14, up2_ne1 (by decide), h12, up2_ne1 (by decide), h10, up2_ne1 (by decide)]; exact s0] at h16
    rw [show c16 108 39 = N 0 20 + 1 from by rw [h16, up2_self]]
    have fr : ∀ k j, ¬ ((k = 108 ∧ j = 39) ∨ (128 ≤ k ∧ k ≤ 130)) → c16 k j = c k j := fun k j w => by
      rw [h16, h14, h12, h10]; unfold up2
      rw [if_neg (by omega), if_neg (by omega), if_neg (by omega), if_neg (by omega)]
    have e1 : ∀ i, c16 128 i = if i = N 0 20 then p else c 128 i := fun i => by rw [h16, h14, h12, h10]; simp [up2]
    have e2 : ∀ i, c16 130 i = if i = N 0 20 then e else c 130 i := fun i => by rw [h16, h14, h12, h10]; simp [up2]
    have e3 : ∀ i, c16 129 i = if i = N 0 20 then n else c 129 i := fun i => by rw [h16, h14, h12, h10]; simp [up2]
    refine h3 c16 ⟨a, b⟩ n0 n1 (by omega) (fun k w j => fr k j (by omega)) (MSR_rows hM (fun k j w => fr k j (by omega)) (fun k a _ j => ad_k (by omega) (by omega) (by omega) (by omega)) (fun j a => ad_0 (by decide) (by omega)) ⟨⟨by rw [h16, up2_self, ad_n], fun i i0 i5 => ?_⟩, ⟨by rw [fr 108 44 (by omega), ad_0 (by decide) (by decide)]; exact p0, fun i i0 i1 => ?_⟩, ⟨by rw [fr 108 45 (by omega), ad_0 (by decide) (by decide)]; exact b0, fun i i0 i1 => ?_⟩⟩)
    · have ar := ad_r (G := N) (b := 20) (x := p) (y := e) (z := n) (i := i) (by decide)
      rw [e1, e2, e3, ad_n, show (21 : Int) = 20 + 1 from rfl, show (22 : Int) = 20 + 2 from rfl, show (23 : Int) = 20 + 3 from rfl, ar.1, ar.2.1, ar.2.2]
      have si := s1 i i0 i5
      by_cases z2 : i = N 0 20
      · rw [if_pos z2, if_pos z2, if_pos z2, if_pos z2, if_pos z2, if_pos z2]; exact ⟨he, fun _ => ⟨rfl, rfl, rfl⟩⟩
      · rw [if_neg z2, if_neg z2, if_neg z2, if_neg z2, if_neg z2, if_neg z2]; exact ⟨si.1, fun y2 => si.2 (by omega)⟩
    · rw [ad_0 (by decide) (by decide)] at i1
      rw [fr 132 i (by omega), fr 133 i (by omega), ad_k (by decide) (by decide) (by decide) (by decide), ad_k (by decide) (by decide) (by decide) (by decide)]; exact p1 i i0 i1
    · rw [ad_0 (by decide) (by decide)] at i1
      rw [fr 134 i (by omega), fr 135 i (by omega), ad_k (by decide) (by decide) (by decide) (by decide), ad_k (by decide) (by decide) (by decide) (by decide)]; exact b1 i i0 i1
theorem n_book {H : hf} {c N I X : ct} {K : SK} {d : Nat} {Q : ct → Int → Prop} (hM : MSR H c N I X) (hP : PU N I X) {p s : Int} (hp : ir p) (hs : ir s) (hm : ∀ c', p = -1 → loM c c' → MSR H c' (szG N 28 0) I X → Q c' 0) (h0 : p ≠ -1 → ¬ (isG N p ∧ 0 ≤ s ∧ s < 6) → Q c (-1)) (h2 : isG N p → 0 ≤ s → s < 6 → N 0 28 = 8 → Q c (-4)) (h3 : ∀ c', isG N p → 0 ≤ s → s < 6 → N 0 28 < 8 → loM c c' → MSR H c' (adG N 28 p s 0) I X → Q c' (N 0 28 + 1)) : CI K (d + 3) mX9_book [(2, 108), (0, p), (0, s)] c Q := by
  have hz := hP.1.2.2.1.2.2
  refine e_X9_book p s (s_X9_book_0 p s ⟨fun z c2 h2 => ?_, fun z => ⟨hp, m_isGuest hp hM.1.1.1 (fun y => bz (h0 z (fun q => y q.1))) (fun a b => bo (m_isSeat hs (fun y => bz (h0 z (fun q => y q.2))) (fun n0 n1 => bo ?_)))⟩⟩)
  · subst h2
    exact hm _ z (fun k w j => up2_ne1 (by omega)) (n_zero hM (Or.inr (Or.inr ⟨rfl, rfl⟩)))
  · obtain ⟨⟨s0, s1⟩, ⟨p0, p1⟩, ⟨b0, b1⟩⟩ := hM.1.2
    rw [b0]
    refine ⟨fun y => h2 ⟨a, b⟩ n0 n1 y, fun y => ⟨⟨by omega, by omega⟩, ⟨by omega, by omega⟩, fun c10 h10 => ?_⟩⟩
    rw [show c10 108 45 = N 0 28 from by rw [h10, up2_ne1 (by decide)]; exact b0]
    refine ⟨⟨by omega, by omega⟩, fun c14 h14 c16 h16 => ?_⟩
    rw [show c14 108 45 = N 0 28 from by rw [h14, up2_ne1 (by decide), h10, up2_ne1 (by decide)]; exact b0] at h16
    rw [show c16 108 45 = N 0 28 + 1 from by rw [h16, up2_self]]
    have fr : ∀ k j, ¬ ((k = 108 ∧ j = 45) ∨ (134 ≤ k ∧ k ≤ 135)) → c16 k j = c k j := fun k j w => by
      rw [h16, h14, h10]; unfold up2
      rw [if_neg (by omega), if_neg (by omega), if_neg (by omega)]
    have e1 : ∀ i, c16 134 i = if i = N 0 28 then p else c 134 i := fun i => by rw [h16, h14, h10]; simp [up2]
    have e2 : ∀ i, c16 135 i = if i = N 0 28 then s else c 135 i := fun i => by rw [h16, h14, h10]; simp [up2]
    refine h3 c16 ⟨a, b⟩ n0 n1 (by omega) (fun k w j => fr k j (by omega)) (MSR_rows hM (fun k j w => fr k j (by omega)) (fun k a _ j => ad_k (by omega) (by omega) (by omega) (by omega)) (fun j a => ad_0 (by decide) (by omega)) ⟨⟨by rw [fr 108 39 (by omega), ad_0 (by decide) (by decide)]; exact s0, fun i i0 i5 => ?_⟩, ⟨by rw [fr 108 44 (by omega), ad_0 (by decide) (by decide)]; exact p0, fun i i0 i1 => ?_⟩, ⟨by rw [h16, up2_self, ad_n], fun i i0 i1 => ?_⟩⟩)
    · rw [fr 128 i (by omega), fr 129 i (by omega), fr 130 i (by omega), ad_0 (by decide) (by decide), ad_k (by decide) (by decide) (by decide) (by decide), ad_k (by decide) (by decide) (by decide) (by decide), ad_k (by decide) (by decide) (by decide) (by decide)]; exact s1 i i0 i5
    · rw [ad_0 (by decide) (by decide)] at i1
      rw [fr 132 i (by omega), fr 133 i (by omega), ad_k (by decide) (by decide) (by decide) (by decide), ad_k (by decide) (by decide) (by decide) (by decide)]; exact p1 i i0 i1
    · rw [ad_n] at i1
      have ar := ad_r (G := N) (b := 28) (x := p) (y := s) (z := 0) (i := i) (by decide)
      rw [e1, e2, show (29 : Int) = 28 + 1 from rfl, show (30 : Int) = 28 + 2 from rfl, ar.1, ar.2.1]
      by_cases z2 : i = N 0 28
      · rw [if_pos z2, if_pos z2, if_pos z2, if_pos z2]; exact ⟨rfl, rfl⟩
      · rw [if_neg z2, if_neg z2, if_neg z2, if_neg z2]; exact b1 i i0 (by omega)
theorem n_plan {H : hf} {c N I X : ct} {K : SK} {d : Nat} {Q : ct → Int → Prop} (hM : MSR H c N I X) (hP : PU N I X) {w n : Int} (hw : ir w) (hn : ir n) (hm : ∀ c', w = -1 → loM c c' → MSR H c' (szG N 24 0) I X → Q c' 0) (h0 : w ≠ -1 → ¬ isP N w n → Q c (-1)) (h2 : isP N w n → N 0 24 = 10 → Q c (-4)) (h3 : ∀ c', isP N w n → N 0 24 < 10 → loM c c' → MSR H c' (adG N 24 w n 0) I X → Q c' (N 0 24 + 1)) : CI K (d + 3) mX9_plan [(2, 108), (0, w), (0, n)] c Q := by
  have hz := hP.1.2.2.1.2.1
  obtain ⟨⟨s0, s1⟩, ⟨p0, p1⟩, ⟨b0, b1⟩⟩ := hM.1.2
  have fin : isP N w n → WI K (d + 3) mX9_plan 55 [(2, 108), (0, w), (0, n)] [] c Q := fun hi => by
    refine s_X9_plan_55 w n ?_
    rw [p0]
    refine ⟨fun y => h2 hi y, fun y => ⟨⟨by omega, by omega⟩, ⟨by omega, by omega⟩, fun c10 h10 => ?_⟩⟩
    rw [show c10 108 44 = N 0 24 from by rw [h10, up2_ne1 (by decide)]; exact p0]
    have fin2 : ∀ c14 c16 v, v = (if 0 < w then n else 0) → c14 = up2 c10 133 (N 0 24) v → c16 = up2 c14 108 44 (c14 108 44 + 1) → Q c16 (c16 108 44) := fun c14 c16 v hv h14 h16 => by
      rw [show c14 108 44 = N 0 24 from by rw [h14, up2_ne1 (by decide), h10, up2_ne1 (by decide)]; exact p0] at h16
      rw [show c16 108 44 = N 0 24 + 1 from by rw [h16, up2_self]]
      have fr : ∀ k j, ¬ ((k = 108 ∧ j = 44) ∨ (132 ≤ k ∧ k ≤ 133)) → c16 k j = c k j := fun k j w => by
        rw [h16, h14, h10]; unfold up2
        rw [if_neg (by omega), if_neg (by omega), if_neg (by omega)]
      have e1 : ∀ i, c16 132 i = if i = N 0 24 then w else c 132 i := fun i => by rw [h16, h14, h10]; simp [up2]
      have e2 : ∀ i, c16 133 i = if i = N 0 24 then v else c 133 i := fun i => by rw [h16, h14, h10]; simp [up2]
      refine h3 c16 hi (by omega) (fun k w j => fr k j (by omega)) (MSR_rows hM (fun k j w => fr k j (by omega)) (fun k a _ j => ad_k (by omega) (by omega) (by omega) (by omega)) (fun j a => ad_0 (by decide) (by omega)) ⟨⟨by rw [fr 108 39 (by omega), ad_0 (by decide) (by decide)]; exact s0, fun i i0 i5 => ?_⟩, ⟨by rw [h16, up2_self, ad_n], fun i i0 i1 => ?_⟩, ⟨by rw [fr 108 45 (by omega), ad_0 (by decide) (by decide)]; exact b0, fun i i0 i1 => ?_⟩⟩)
      · rw [fr 128 i (by omega), fr 129 i (by omega), fr 130 i (by omega), ad_0 (by decide) (by decide), ad_k (by decide) (by decide) (by decide) (by decide), ad_k (by decide) (by decide) (by decide) (by decide), ad_k (by decide) (by decide) (by decide) (by decide)]; exact s1 i i0 i5
      · rw [ad_n] at i1
        have ar := ad_r (G := N) (b := 24) (x := w) (y := n) (z := 0) (i := i) (by decide)
        rw [e1, e2, show (25 : Int) = 24 + 1 from rfl, show (26 : Int) = 24 + 2 from rfl, ar.1, ar.2.1]
        by_cases z2 : i = N 0 24
        · rw [if_pos z2, if_pos z2, if_pos z2, if_pos z2]; exact ⟨rfl, hv⟩
        · rw [if_neg z2, if_neg z2, if_neg z2, if_neg z2]; exact p1 i i0 (by omega)
      · rw [ad_0 (by decide) (by decide)] at i1
        rw [fr 134 i (by omega), fr 135 i (by omega), ad_k (by decide) (by decide) (by decide) (by decide), ad_k (by decide) (by decide) (by decide) (by decide)]; exact b1 i i0 i1
    exact ⟨hw, fun z => ⟨⟨by omega, by omega⟩, fun c14 h14 c16 h16 => fin2 c14 c16 0 (by rw [if_neg (by omega)]) h14 h16⟩, fun z => ⟨⟨by omega, by omega⟩, fun c14 h14 c16 h16 => fin2 c14 c16 n (by rw [if_pos (by omega)]) h14 h16⟩⟩
  have isP_ : ∀ q : Prop, (isP N w n ↔ (w = 0 ∨ ((w = 1 ∨ w = 2) ∧ isG N n) ∨ (w = 3 ∧ 0 ≤ n ∧ n < 6))) := fun _ => Iff.rfl
  refine e_X9_plan w n (s_X9_plan_0 w n ⟨fun z c2 h2 => ?_, fun z => ⟨hw, m_in (d := d + 1) hw ir01.1 ⟨by decide, by decide⟩ (fun y => bz (h0 z (fun q => by unfold isP at q; omega))) (fun w0 w3 => bo (m_in (d := d + 1) hw ⟨by decide, by decide⟩ ⟨by decide, by decide⟩ (fun y => bz ⟨fun z3 => m_isSeat hn (fun y2 => bz (h0 z (fun q => by unfold isP at q; omega))) (fun n0 n1 => bo (fin (Or.inr (Or.inr ⟨z3, n0, n1⟩)))), fun z3 => ⟨hw, fin (Or.inl (by omega))⟩⟩) (fun w1 w2 => bo (m_isGuest hn hM.1.1.1 (fun y2 => bz (h0 z (fun q => ?_))) (fun a b => bo ⟨fun z3 => absurd z3 (by omega), fun z3 => ⟨hw, fin (Or.inr (Or.inl ⟨by omega, a, b⟩))⟩⟩)))))⟩⟩)
  · subst h2
    exact hm _ z (fun k w j => up2_ne1 (by omega)) (n_zero hM (Or.inr (Or.inl ⟨rfl, rfl⟩)))
  · unfold isP at q
    rcases q with q | q | q
    · omega
    · exact y2 q.2
    · omega
