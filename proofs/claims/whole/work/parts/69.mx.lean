/-! CONTRACTS: the reference's public calls, third lot -/
theorem sm_snoc {f : Int → Int} : ∀ (m : Nat) (i : Int), smR f (m + 1) i = smR f m i + f (i + m) := by
  intro m
  induction m with
  | zero => intro i; simp [smR]
  | succ m ih =>
    intro i
    rw [smR, ih (i + 1), smR]
    have : i + 1 + (m : Int) = i + ((m + 1 : Nat) : Int) := by omega
    rw [this]; omega
theorem mk_snoc {f : Int → Int} {n : Int} (hn : 0 ≤ n) : mkR f (n + 1) = mkR f n + f n * pw n := by
  unfold mkR
  rw [show (n + 1).toNat = n.toNat + 1 by omega, sm_snoc, show 0 + (n.toNat : Int) = n by omega]
theorem mk_out {f : Int → Int} {n : Int} (hn : 0 ≤ n ∧ n < 6) (hf : ∀ p, 0 ≤ p → p < n → f p = 0 ∨ f p = 1) : bAnd (mkR f n) (bXor (bShl 1 n) (-1)) = mkR f n := by
  have b := mk_bit (k := n) ⟨hn.1, by omega⟩ hf hn
  have a := and_not (mkR f n).toNat (by omega) n.toNat (by omega)
  rw [show (((mkR f n).toNat : Nat) : Int) = mkR f n by omega, show ((n.toNat : Nat) : Int) = n by omega] at a
  rw [a, b.2, if_neg (by omega)]
  omega
theorem tk_0 {N : ct} {k v s j : Int} : tkG N k v s 0 j = if j = 10 then N 0 10 + 1 else N 0 j := rfl
theorem tk_7 {N : ct} {k v s j : Int} : tkG N k v s 7 j = if 4 * N 0 10 ≤ j ∧ j < 4 * N 0 10 + 4 then 0 else N 7 j := rfl
theorem tk_r {N : ct} {k v s a j : Int} (h1 : 1 ≤ a) (h6 : a ≤ 6) : tkG N k v s a j = if j = N 0 10 then (if a = 1 then k else if a = 2 then v else if a = 3 then s else 0) else N a j := by
  unfold tkG
  rw [if_neg (by omega), if_neg (by omega)]
  by_cases z : j = N 0 10
  · rw [if_pos ⟨⟨h1, h6⟩, z⟩, if_pos z]
  · rw [if_neg (fun q => z q.2), if_neg z]
theorem tk_sr {N : ct} {k v s : Int} : sameR N (tkG N k v s) ∧ same0 N (tkG N k v s) :=
  ⟨fun a h j => by unfold tkG; rw [if_neg (by omega), if_neg (by omega), if_neg (by omega)], fun j h => by rw [tk_0, if_neg (by omega)]⟩
theorem free_G {N : ct} (hn : 0 ≤ N 0 10 ∧ N 0 10 < 6) : ∃ s, 0 ≤ s ∧ s < 6 ∧ whG N s < 0 := by
  obtain ⟨s, a, b, h⟩ := free_ex (A := N 3) hn
  refine ⟨s, a, b, ?_⟩
  rcases wsR_or (f := N 3) (s := s) (N 0 10).toNat 0 with e | ⟨e1, e2, e3⟩
  · have : whG N s = -5 := e
    omega
  · exact absurd e3 (stA_no h _ e1 (by omega))
theorem n_guest {H : hf} {c N I X : ct} {K : SK} {d : Nat} {Q : ct → Int → Prop} (hM : MSR H c N I X) (hP : PU N I X) {k v : Int} (hk : ir k) (hv : ir v) (h0 : ¬ (0 ≤ k ∧ k < 7) → Q c (-1)) (h1 : 0 ≤ k → k < 7 → ¬ (0 ≤ v ∧ v ≤ 9) → Q c (-2)) (h2 : 0 ≤ k → k < 7 → 0 ≤ v → v ≤ 9 → N 0 10 = 6 → Q c (-4))
    (h3 : ∀ c' s, 0 ≤ k → k < 7 → 0 ≤ v → v ≤ 9 → N 0 10 < 6 → loM c c' → fre N s → MSR H c' (tkG N k v s) I X → Q c' (N 0 10)) : CI K (d + 2) mX9_guest [(2, 108), (0, k), (0, v)] c Q := by
  have kk := hM.k hP
  obtain ⟨e0, n0, n6⟩ := kk.1.1
  refine e_X9_guest k v (s_X9_guest_0 k v (m_in (d := d) hk ir01.1 ⟨by decide, by decide⟩ (fun z => bz (h0 (by omega))) (fun k0 k6 => bo (m_in (d := d) hv ir01.1 ⟨by decide, by decide⟩ (fun z => bz (h1 k0 (by omega) z)) (fun v0 v9 => bo ?_)))))
  rw [e0]
  refine ⟨fun z => h2 k0 (by omega) v0 v9 z, fun z => ⟨⟨by omega, by omega⟩, ?_⟩⟩
  have nl : N 0 10 < 6 := by omega
  obtain ⟨w, w0, w6, hw⟩ := free_G ⟨n0, nl⟩
  have found : ∀ s, fre N s → whG N s < 0 → WI K (d + 2) mX9_guest 41 [(2, 108), (0, k), (0, v), (0, s), (9, 0)] [] c Q := by
    intro s hf hs
    have hs6 := hf.1
    have ws : ir (whG N s) := by have := whG_r (s := s) kk.1; exact ⟨by omega, by omega⟩
    refine s_X9_guest_41 k v s (m_who (d := d) kk.1 ⟨by omega, by omega⟩ ⟨ws, fun _ => ?_, fun z => absurd hs z⟩)
    rw [e0]
    refine ⟨⟨n0, nl⟩, fun c5 h5 => ?_⟩
    have e5 : c5 108 0 = N 0 10 := by rw [h5, up2_ne1 (by decide)]; exact e0
    rw [e5]
    refine ⟨⟨n0, nl⟩, fun c7 h7 => ?_⟩
    have e7 : c7 108 0 = N 0 10 := by rw [h7, up2_ne1 (by decide)]; exact e5
    rw [e7]
    refine ⟨⟨n0, nl⟩, fun c9 h9 => ?_⟩
    have e9 : c9 108 0 = N 0 10 := by rw [h9, up2_ne1 (by decide)]; exact e7
    rw [e9]
    refine ⟨⟨n0, nl⟩, fun c11 h11 c13 h13 c14 h14 => ?_⟩
    have e11 : ∀ j, c11 108 j = c 108 j := fun j => by rw [h11, up2_ne1 (by decide), h9, up2_ne1 (by decide), h7, up2_ne1 (by decide), h5, up2_ne1 (by decide)]
    rw [e11, e11, e0, kk.1.2.2.2.2.1, mk_out ⟨n0, nl⟩ (fun q a b => (kk.1.2.2.2.2.2.2 q a b).2.2.2.2.2.1)] at h13
    have e13 : c13 108 0 = N 0 10 := by rw [h13, up2_ne2 (by decide), e11]; exact e0
    rw [e13, show c13 108 2 = mkR (N 5) (N 0 10) from by rw [h13, up2_ne2 (by decide), e11]; exact kk.1.2.2.2.2.2.1, mk_out ⟨n0, nl⟩ (fun q a b => (kk.1.2.2.2.2.2.2 q a b).2.2.2.2.1)] at h14
    have a1 : ∀ j, j ≠ 1 → j ≠ 2 → c14 108 j = c 108 j := fun j z1 z2 => by rw [h14, up2_ne2 z2, h13, up2_ne2 z1, e11]
    have a2 : c14 108 1 = mkR (N 6) (N 0 10) := by rw [h14, up2_ne2 (by decide), h13, up2_self]
    have a3 : c14 108 2 = mkR (N 5) (N 0 10) := by rw [h14, up2_self]
    have ar : ∀ a j, a ≠ 108 → a ≠ 109 → a ≠ 110 → a ≠ 111 → a ≠ 112 → c14 a j = c a j := fun a j z1 z2 z3 z4 z5 => by
      rw [h14, up2_ne1 z1, h13, up2_ne1 z1, h11, up2_ne1 z5, h9, up2_ne1 z4, h7, up2_ne1 z3, h5, up2_ne1 z2]
    have r109 : ∀ j, c14 109 j = if j = N 0 10 then k else c 109 j := fun j => by
      rw [h14, up2_ne1 (by decide), h13, up2_ne1 (by decide), h11, up2_ne1 (by decide), h9, up2_ne1 (by decide), h7, up2_ne1 (by decide), h5]; simp [up2]
    have r110 : ∀ j, c14 110 j = if j = N 0 10 then v else c 110 j := fun j => by
      rw [h14, up2_ne1 (by decide), h13, up2_ne1 (by decide), h11, up2_ne1 (by decide), h9, up2_ne1 (by decide), h7]; simp only [up2, true_and, h5]; simp
    have r111 : ∀ j, c14 111 j = if j = N 0 10 then s else c 111 j := fun j => by
      rw [h14, up2_ne1 (by decide), h13, up2_ne1 (by decide), h11, up2_ne1 (by decide), h9]; simp only [up2, true_and, h7, h5]; simp
    have r112 : ∀ j, c14 112 j = if j = N 0 10 then 0 else c 112 j := fun j => by
      rw [h14, up2_ne1 (by decide), h13, up2_ne1 (by decide), h11]; simp only [up2, true_and, h9, h7, h5]; simp
    have loop : ∀ (m : Nat) (i : Int) (c2 : ct), i = 4 - m → 0 ≤ i → (∀ a, a ≠ 113 → ∀ j, c2 a j = c14 a j) → (∀ j, c2 113 j = if 4 * N 0 10 ≤ j ∧ j < 4 * N 0 10 + i then 0 else c 113 j) → WI K (d + 2) mX9_guest 132 [(2, 108), (9, 0), (9, 0), (9, 0), (0, i)] [] c2 Q := by
      intro m
      induction m with
      | zero =>
        intro i c2 hi i0 f1 f2
        refine s_X9_guest_132 i ⟨⟨by omega, by omega⟩, fun _ c3 hc3 => ?_, fun z => absurd (by omega) z⟩
        rw [f1 108 (by decide), a1 0 (by decide) (by decide), e0] at hc3
        have e3 : c3 108 0 = N 0 10 + 1 := by rw [hc3, up2_self]
        rw [e3, show N 0 10 + 1 - 1 = N 0 10 by omega]
        have i4 : i = 4 := by omega
        have b1 : ∀ j, j ≠ 0 → j ≠ 1 → j ≠ 2 → c3 108 j = c 108 j := fun j z0 z1 z2 => by rw [hc3, up2_ne2 z0, f1 108 (by decide), a1 j z1 z2]
        have br : ∀ a j, a ≠ 108 → a ≠ 113 → c3 a j = c14 a j := fun a j z1 z2 => by rw [hc3, up2_ne1 z1, f1 a z2]
        refine h3 c3 s k0 (by omega) v0 v9 nl (fun a w j => ?_) hf (MSR_tab hM (fun a j w => ?_) ⟨?_, ?_, ?_, ?_, ?_, ?_, fun q a b => ?_⟩ tk_sr.1 tk_sr.2)
        · rw [br a j (by omega) (by omega), ar a j (by omega) (by omega) (by omega) (by omega) (by omega)]
        · by_cases z : a = 108
          · subst z; exact b1 j (by omega) (by omega) (by omega)
          · rw [br a j z (by omega), ar a j z (by omega) (by omega) (by omega) (by omega)]
        · rw [e3, tk_0, if_pos rfl]; omega
        · rw [b1 3 (by decide) (by decide) (by decide), tk_0, if_neg (by decide)]; exact kk.1.2.1
        · rw [b1 4 (by decide) (by decide) (by decide), tk_0, if_neg (by decide)]; exact kk.1.2.2.1
        · rw [b1 11 (by decide) (by decide) (by decide), tk_0, if_neg (by decide)]; exact kk.1.2.2.2.1
        · rw [hc3, up2_ne2 (by decide), f1 108 (by decide), a2, tk_0, if_pos rfl, mk_snoc n0, tk_r (by decide) (by decide), if_pos rfl]
          rw [mk_congr (f := N 6) (g := tkG N k v s 6) n0 (fun p p0 p1 => by rw [tk_r (by decide) (by decide), if_neg (by omega)])]
          simp
        · rw [hc3, up2_ne2 (by decide), f1 108 (by decide), a3, tk_0, if_pos rfl, mk_snoc n0, tk_r (by decide) (by decide), if_pos rfl]
          rw [mk_congr (f := N 5) (g := tkG N k v s 5) n0 (fun p p0 p1 => by rw [tk_r (by decide) (by decide), if_neg (by omega)])]
          simp
        · rw [tk_0, if_pos rfl] at b
          rw [br 109 q (by decide) (by decide), br 110 q (by decide) (by decide), br 111 q (by decide) (by decide), br 112 q (by decide) (by decide), r109, r110, r111, r112, tk_r (by decide) (by decide), tk_r (by decide) (by decide), tk_r (by decide) (by decide), tk_r (by decide) (by decide), tk_r (by decide) (by decide), tk_r (by decide) (by decide)]
          have e7 : ∀ j, c3 113 j = if 4 * N 0 10 ≤ j ∧ j < 4 * N 0 10 + 4 then 0 else c 113 j := fun j => by rw [hc3, up2_ne1 (by decide), f2, i4]
          by_cases z : q = N 0 10
          · subst z
            simp only [eq_self, if_true]
            show (True ∧ 0 ≤ k ∧ k < 7) ∧ (v = v ∧ 0 ≤ v ∧ v ≤ 9) ∧ (s = s ∧ 0 ≤ s ∧ s < 6) ∧ ((0 : Int) = 0 ∧ (0 : Int) ≤ 0 ∧ (0 : Int) ≤ 20000) ∧ ((0 : Int) = 0 ∨ (0 : Int) = 1) ∧ ((0 : Int) = 0 ∨ (0 : Int) = 1) ∧ _
            refine ⟨⟨trivial, k0, by omega⟩, ⟨rfl, v0, v9⟩, ⟨rfl, hs6⟩, ⟨rfl, by decide, by decide⟩, Or.inl rfl, Or.inl rfl, fun i i0 i1 => ?_⟩
            rw [e7, tk_7, if_pos (by omega), if_pos (by omega)]
            exact ⟨rfl, by decide, by decide⟩
          · simp only [if_neg z]
            obtain ⟨r1, r2, r3, r4, r5, r6, r7⟩ := kk.1.2.2.2.2.2.2 q a (by omega)
            refine ⟨r1, r2, r3, r4, r5, r6, fun i i0 i1 => ?_⟩
            rw [e7, tk_7, if_neg (by omega), if_neg (by omega)]
            exact r7 i i0 i1
      | succ m ih =>
        intro i c2 hi i0 f1 f2
        refine s_X9_guest_132 i ⟨⟨by omega, by omega⟩, fun z => absurd z (by omega), fun _ => ?_⟩
        rw [f1 108 (by decide), a1 0 (by decide) (by decide), e0]
        refine ⟨⟨by omega, by omega⟩, fun c4 h4 => ih (i + 1) c4 (by omega) (by omega) (fun a z j => by rw [h4, up2_ne1 z]; exact f1 a z j) (fun j => ?_)⟩
        by_cases z : j = 4 * N 0 10 + i
        · subst z; rw [h4, up2_self, if_pos (by omega)]
        · rw [h4, up2_ne2 z, f2]
          by_cases y : 4 * N 0 10 ≤ j ∧ j < 4 * N 0 10 + i
          · rw [if_pos y, if_pos (by omega)]
          · rw [if_neg y, if_neg (by omega)]
    exact loop 4 0 c14 (by decide) (by decide) (fun _ _ _ => rfl) (fun j => by rw [if_neg (by omega)]; exact ar 113 j (by decide) (by decide) (by decide) (by decide) (by decide))
  have search : ∀ (m : Nat) (s : Int), s = w - m → 0 ≤ s → (∀ q, 0 ≤ q → q < s → ∃ p, 0 ≤ p ∧ p < N 0 10 ∧ N 3 p = q) → WI K (d + 2) mX9_guest 41 [(2, 108), (0, k), (0, v), (0, s), (9, 0)] [] c Q := by
    intro m
    induction m with
    | zero =>
      intro s hs s0 hq
      have : s = w := by omega
      subst this
      exact found s ⟨⟨s0, w6⟩, whG_no hw, hq⟩ hw
    | succ m ih =>
      intro s hs s0 hq
      by_cases z : whG N s < 0
      · exact found s ⟨⟨s0, by omega⟩, whG_no z, hq⟩ z
      · have hr := whG_r (s := s) kk.1
        have hr : 0 ≤ whG N s ∧ whG N s < N 0 10 ∧ N 3 (whG N s) = s := by omega
        refine s_X9_guest_41 k v s (m_who (d := d) kk.1 ⟨by omega, by omega⟩ ⟨⟨by omega, by omega⟩, fun y => absurd y z, fun _ => ih (s + 1) (by omega) (by omega) (fun q q0 q1 => ?_)⟩)
        by_cases y : q = s
        · exact ⟨whG N s, hr.1, hr.2.1, by rw [y]; exact hr.2.2⟩
        · exact hq q q0 (by omega)
  exact search w.toNat 0 (by omega) (by decide) (fun q q0 q1 => by omega)
/-- what lies beside the evenings alone changes -/
theorem MSR_misc {H : hf} {c c' N I X X' : ct} (h : MSR H c N I X) (h2 : X' 0 2 = X 0 2) (hq : ∀ k j, ¬ ((k = 108 ∧ (j = 12 ∨ j = 72)) ∨ k = 114 ∨ (148 ≤ k ∧ k ≤ 152)) → c' k j = c k j) (hX : MX c' X') (hz : SZ N) : MSR H c' N I X' := by
  obtain ⟨h1, h29, h3, h4, h5⟩ := h
  refine ⟨MS_congr h1 hz (fun k j a => hq k j (by unfold evP at a; omega)), by rw [hq 108 29 (by omega)]; exact h29, ?_, fun i a b => MHR_congr (h4 i a (by rw [← h2]; exact b)) (fun k a b j => hq k j (by omega)), hX⟩
  rw [vw_congr (c := c) (fun j a b => hq 108 j (by omega)) (fun k a b j => hq k j (by omega))]
  exact h3
theorem n_feed {H : hf} {c N I X : ct} {K : SK} {d : Nat} {Q : ct → Int → Prop} (hM : MSR H c N I X) (hP : PU N I X) {a : Int} (ha : ir a) (h0 : ¬ (0 ≤ a ∧ a ≤ 127) → Q c (-2)) (h1 : 0 ≤ a → a ≤ 127 → X 0 1 = 100 → Q c (-4)) (h2 : ∀ c', 0 ≤ a → a ≤ 127 → X 0 1 < 100 → loM c c' → MSR H c' N I (fdX X a) → Q c' (X 0 1 + 1)) : CI K (d + 2) mX9_feed [(2, 108), (0, a)] c Q := by
  have hx := hP.2.2.2.1
  obtain ⟨x0, x1, x2, x3, x4, x5, x6⟩ := hM.2.2.2.2
  refine e_X9_feed a (s_X9_feed_0 a (m_in (d := d) ha ir01.1 ⟨by decide, by decide⟩ (fun z => bz (h0 z)) (fun a0 a1 => bo ?_)))
  rw [x1]
  refine ⟨fun z => h1 a0 a1 z, fun z => ⟨⟨by omega, by omega⟩, ⟨by omega, by omega⟩, fun c5 h5 c7 h7 => ?_⟩⟩
  rw [h5, up2_ne1 (by decide), x1] at h7
  subst h7
  rw [up2_self]
  have fr : ∀ k j, ¬ ((k = 108 ∧ j = 12) ∨ (k = 114 ∧ j = X 0 1)) → up2 (up2 c 114 (X 0 1) a) 108 12 (X 0 1 + 1) k j = c k j := fun k j w => by
    unfold up2
    rw [if_neg (fun q => w (Or.inl q)), if_neg (fun q => w (Or.inr q))]
  have fx : ∀ k j, k ≠ 0 → k ≠ 1 → fdX X a k j = X k j := fun k j z0 z1 => by unfold fdX; rw [if_neg (fun q => z0 q.1), if_neg (fun q => z1 q.1)]
  have f0 : ∀ j, j ≠ 1 → fdX X a 0 j = X 0 j := fun j z => by unfold fdX; rw [if_neg (fun q => z q.2), if_neg (fun q => absurd q.1 (by decide))]
  have f01 : fdX X a 0 1 = X 0 1 + 1 := by simp [fdX]
  refine h2 _ a0 a1 (by omega) (fun k w j => fr k j (by omega)) (MSR_misc hM (f0 2 (by decide)) (fun k j w => fr k j (by omega)) ⟨by rw [fr 108 50 (by omega), f0 0 (by decide)]; exact x0, by rw [up2_self, f01], by rw [fr 108 10 (by omega), f0 2 (by decide)]; exact x2, by rw [fr 108 72 (by omega), f0 3 (by decide)]; exact x3, fun i i0 i1 => ?_, fun i i0 i1 i2 => ?_, fun t t0 t1 => ?_⟩ hP.1.2.2.1)
  · rw [f01] at i1
    rw [up2_ne1 (by decide)]
    have e1 : fdX X a 1 i = if i = X 0 1 then a else X 1 i := by unfold fdX; rw [if_neg (fun q => absurd q.1 (by decide))]; simp
    rw [e1]
    by_cases z : i = X 0 1
    · rw [z, up2_self, if_pos rfl]
    · rw [up2_ne2 z, if_neg z]; exact x4 i i0 (by omega)
  · rw [f0 3 (by decide)] at i2
    rw [fr 148 i (by omega), fx 2 i (by decide) (by decide)]; exact x5 i i0 i1 i2
  · rw [fr 149 t (by omega), fr 150 t (by omega), fx 3 t (by decide) (by decide), fx 4 t (by decide) (by decide)]
    obtain ⟨y1, y2, y3⟩ := x6 t t0 t1
    exact ⟨y1, y2, fun i i0 i1 => by rw [fr 151 _ (by omega), fx (10 + t) i (by omega) (by omega)]; exact y3 i i0 i1⟩
theorem n_count {H : hf} {c N I X : ct} {K : SK} {d : Nat} {Q : ct → Int → Prop} (hM : MSR H c N I X) {w : Int} (hw : ir w) (h : Q c (r_count N X w)) : CI K (d + 1) mX9_count [(2, 108), (0, w)] c Q := by
  obtain ⟨x0, x1, x2, x3, x4, x5, x6⟩ := hM.2.2.2.2
  obtain ⟨⟨s0, -⟩, ⟨p0, -⟩, ⟨b0, -⟩⟩ := hM.1.2
  refine e_X9_count w (s_X9_count_0 w ?_)
  rw [hM.1.1.1.1, x2, s0, p0, b0, x1, x3]
  refine ⟨hw, fun z => ?_, fun z => ?_, fun z => ?_, fun z => ?_, fun z => ?_, fun z => ?_, fun z => ?_, fun z => ?_⟩
  · subst z; exact h
  · subst z; exact h
  · subst z; exact h
  · subst z; exact h
  · subst z; exact h
  · subst z; exact h
  · subst z; exact h
  · unfold r_count at h
    rw [if_neg (by omega), if_neg (by omega), if_neg (by omega), if_neg (by omega), if_neg (by omega), if_neg (by omega), if_neg (by omega)] at h
    exact h
theorem n_trace {H : hf} {c N I X : ct} {K : SK} {d : Nat} {Q : ct → Int → Prop} (hM : MSR H c N I X) (hP : PU N I X) {a : Int} (ha : ir a) (h : Q c (r_trace X a)) : CI K (d + 2) mX9_trace [(2, 108), (0, a)] c Q := by
  obtain ⟨x0, x1, x2, x3, x4, x5, x6⟩ := hM.2.2.2.2
  have hx := hP.2.2.2.2.2.1
  unfold r_trace at h
  refine e_X9_trace a (s_X9_trace_0 a (m_in (d := d) ha ir01.1 ⟨by decide, by decide⟩ (fun z => bz ?_) (fun a0 a1 => bo ?_)))
  · rw [if_neg (by omega)] at h; exact h
  · rw [x3]
    refine ⟨⟨ha, ⟨by omega, by omega⟩⟩, fun z => ?_, fun z => ⟨⟨a0, by omega⟩, ?_⟩⟩
    · rw [if_neg (by omega)] at h; exact h
    · rw [if_pos (by omega)] at h
      rw [x5 a a0 (by omega) (by omega)]; exact h
theorem n_taken {H : hf} {c N I X : ct} {K : SK} {d : Nat} {Q : ct → Int → Prop} (hM : MSR H c N I X) (hP : PU N I X) {p w : Int} (hp : ir p) (hw : ir w) (h0 : ¬ (0 ≤ w ∧ w < 7) → Q c (-2)) (h1 : 0 ≤ w → w < 7 → ¬ isG N p → Q c (-11)) (h2 : 0 ≤ w → w < 7 → isG N p → isK (N 1 p) w → Q c (N 1 p)) (h3 : 0 ≤ w → w < 7 → isG N p → ¬ isK (N 1 p) w → Q c (-12)) : CI K (d + 3) mX9_taken [(2, 108), (0, p), (0, w)] c Q := by
  have k := hM.k hP
  have n6 := k.1.1
  refine e_X9_taken p w (s_X9_taken_0 p w (m_in (d := d + 1) hw ir01.1 ⟨by decide, by decide⟩ (fun z => bz (h0 (by omega))) (fun w0 w6 => bo (m_isGuest hp k.1.1 (fun z => bz (h1 w0 (by omega) z)) (fun a b => bo ?_)))))
  obtain ⟨r1, k0, k7⟩ := (k.1.2.2.2.2.2.2 p a b).1
  rw [r1]
  have ik : ir (N 1 p) := ⟨by omega, by omega⟩
  have yes : isK (N 1 p) w → Q c (N 1 p) := h2 w0 (by omega) ⟨a, b⟩
  have no : ¬ isK (N 1 p) w → Q c (-12) := h3 w0 (by omega) ⟨a, b⟩
  have nk : ∀ {P : Prop}, (isK (N 1 p) w → P) → (¬ isK (N 1 p) w → P) → P := fun f g => (Classical.em (isK (N 1 p) w)).elim f g
  have at51 : ¬ w = 0 → ¬ N 1 p = w → ¬ (w = 1 ∧ N 1 p = 4) → WI K (d + 3) mX9_taken 51 [(9, 0), (9, 0), (0, w), (0, N 1 p)] [] c Q := fun z1 z2 z3 => by
    refine s_X9_taken_51 w (N 1 p) ⟨fun y => ⟨fun y2 => yes (by unfold isK; omega), fun y2 => ⟨ik, fun y3 => absurd y3 (by omega), fun y3 => ⟨hw, no (by unfold isK; omega)⟩⟩⟩, fun y => ⟨hw, fun y2 => ⟨fun y3 => yes (by unfold isK; omega), fun y3 => ⟨ik, no (by unfold isK; omega)⟩⟩, fun y2 => ⟨hw, no (by unfold isK; omega)⟩⟩⟩
  exact ⟨⟨a, by omega⟩, fun z => yes (Or.inl z), fun z => ⟨hw, fun z2 => yes (Or.inr (Or.inl z2)), fun z2 => ⟨⟨ik, hw⟩, fun z3 => ⟨fun z4 => yes (by unfold isK; omega), fun z4 => ⟨ik, at51 z z2 (fun q => z4 q.2)⟩⟩, fun z3 => ⟨hw, at51 z z2 (fun q => z3 q.1)⟩⟩⟩⟩
theorem n_looked {H : hf} {c N I X : ct} {K : SK} {d : Nat} {Q : ct → Int → Prop} (hM : MSR H c N I X) (hP : PU N I X) (h : Q c (lkR N (N 0 28).toNat 0)) : CI K (d + 1) mX9_looked [(2, 108)] c Q := by
  have k := hM.k hP
  have n6 := k.1.1
  have hz := hP.1.2.2.1.2.2
  have hI := hP.1.2.1.2.2.2
  obtain ⟨b0, b1⟩ := hM.1.2.2.2
  have loop : ∀ (n : Nat) (i : Int), i = N 0 28 - n → 0 ≤ i → Q c (lkR N n i) → WI K (d + 1) mX9_looked 2 [(2, 108), (0, i)] [] c Q := by
    intro n
    induction n with
    | zero =>
      intro i hi i0 hq
      refine s_X9_looked_2 i ?_
      rw [b0]
      exact ⟨⟨⟨by omega, by omega⟩, ⟨by omega, by omega⟩⟩, fun _ => hq, fun z => absurd (by omega) z⟩
    | succ n ih =>
      intro i hi i0 hq
      have hb := b1 i i0 (by omega)
      have hi2 := hI i i0 (by omega)
      have r3 := (k.1.2.2.2.2.2.2 (N 29 i) hi2.1.1 hi2.1.2).2.2.1
      refine s_X9_looked_2 i ?_
      rw [b0, hb.1, hb.2, r3.1]
      rw [lkR] at hq
      refine ⟨⟨⟨by omega, by omega⟩, ⟨by omega, by omega⟩⟩, fun z => absurd z (by omega), fun _ => ⟨⟨by omega, by omega⟩, ⟨by omega, by omega⟩, ⟨by omega, by omega⟩, fun z => ?_, fun z => ⟨⟨⟨by omega, by omega⟩, ⟨by omega, by omega⟩⟩, ?_⟩⟩⟩
      · rw [if_pos z] at hq; exact ih (i + 1) (by omega) (by omega) hq
      · rw [if_neg z] at hq; exact hq
  exact e_X9_looked (s_X9_looked_0 (loop (N 0 28).toNat 0 (by omega) (by decide) h))
