/-! HOUSES: the reference's house -/
theorem MWL_at {c : ct} {f : Int} : ∀ (l : List cl4) (k : Int), MWL c f k l → ∀ j, k ≤ j → j < k + l.length → ((0 ≤ c 116 j ∧ c 116 j ≤ 3) ∧ 0 ≤ c 117 j ∧ c 117 j ≤ 99) ∧ (c 116 j ≤ 1 → (0 ≤ c 118 j ∧ c 118 j ≤ c 119 j ∧ c 119 j ≤ 100 * f + 100) ∧ wfT (mTk c) (c 119 j - c 118 j).toNat (c 118 j) 0) := by
  intro l
  induction l with
  | nil => intro k _ j a b; simp at b; omega
  | cons r l ih =>
    intro k h j a b
    simp only [List.length_cons] at b
    by_cases z : j = k
    · subst z
      obtain ⟨⟨h1, h2, h3, h4, h5⟩, -⟩ := h
      rw [h1, h2]
      refine ⟨⟨⟨by omega, by omega⟩, h4⟩, fun y => ?_⟩
      obtain ⟨g1, g2, g3, g4, g5⟩ := h5 (by omega)
      refine ⟨⟨g1, by omega, g3⟩, ?_⟩
      rw [show (c 119 j - c 118 j).toNat = r.2.2.length by omega]
      exact lsAt_wf _ _ _ g4 g5
    · exact ih (k + 1) h.2 j (by omega) (by omega)
theorem MWL_sum {c : ct} {f : Int} {F : Int → Int} : ∀ (l : List cl4) (k : Int), MWL c f k l → smR (mwt c F) l.length k = swP F l := by
  intro l
  induction l with
  | nil => intro k _; rfl
  | cons r l ih =>
    intro k h
    obtain ⟨⟨h1, h2, h3, h4, h5⟩, h6⟩ := h
    rw [List.length_cons, smR, swP, ih (k + 1) h6]
    have : mwt c F k = wtP F r := by
      unfold mwt wtP
      by_cases z : 2 ≤ r.1
      · rw [if_pos (by omega), if_pos z]
      · obtain ⟨g1, g2, g3, g4, g5⟩ := h5 (by omega)
        rw [if_neg (by omega), if_neg z, show (c 119 k - c 118 k).toNat = r.2.2.length by omega, evL_fo _ _ _ g4, h1, h2]
        by_cases y : r.1 = 0
        · rw [if_pos (show ((r.1 : Nat) : Int) = 0 by omega), if_pos y]
        · rw [if_neg (show ¬ ((r.1 : Nat) : Int) = 0 by omega), if_neg y]
    rw [this]
theorem MWL_last {c : ct} {f : Int} {s : Nat} : ∀ (l : List cl4) (k a : Int), MWL c f k l → lsR c s l.length k a = thP s l a := by
  intro l
  induction l with
  | nil => intro k a _; rfl
  | cons r l ih =>
    intro k a h
    obtain ⟨⟨h1, h2, -⟩, h6⟩ := h
    rw [List.length_cons, lsR, thP, ih (k + 1) _ h6, h1, h2]
    by_cases y : r.1 = s
    · rw [if_pos (by omega), if_pos y]
    · rw [if_neg (by omega), if_neg y]
theorem MHR_low {H : hf} {c c' : ct} {i f : Int} (h : MHR H c i) (hi : -1 ≤ i ∧ i < f) (h5 : 0 ≤ i → c' 115 i = c 115 i) (h6 : ∀ k j, 116 ≤ k → k ≤ 119 → j < 10 * f → c' k j = c k j) (h0 : ∀ j, j < 100 * f → c' 120 j = c 120 j) (h22 : ∀ j, c' 122 j = c 122 j) : MHR H c' i := by
  obtain ⟨a1, a2, a3⟩ := h
  have em : meH c' i = meH c i := by
    unfold meH
    by_cases z : 0 ≤ i
    · rw [if_pos z, if_pos z, h5 z]
    · rw [if_neg z, if_neg z]
  have ml : meH c i ≤ 10 * f ∧ meH c i - mbH i ≤ 10 := by
    unfold meH mbH
    by_cases z : 0 ≤ i
    · have := a1 z; rw [if_pos z, if_pos z]; omega
    · rw [if_neg z, if_neg z]; omega
  have cl : ∀ k, mbH i ≤ k → k < meH c i → c' 116 k = c 116 k ∧ c' 117 k = c 117 k ∧ c' 118 k = c 118 k ∧ c' 119 k = c 119 k := fun k b1 b2 => ⟨h6 116 k (by decide) (by decide) (by omega), h6 117 k (by decide) (by decide) (by omega), h6 118 k (by decide) (by decide) (by omega), h6 119 k (by decide) (by decide) (by omega)⟩
  have ew : ∀ F k, mbH i ≤ k → k < meH c i → mwt c' F k = mwt c F k := fun F k b1 b2 => by
    obtain ⟨e6, e7, e8, e9⟩ := cl k b1 b2
    unfold mwt
    rw [e6, e7, e8, e9]
    by_cases z : 1 < c 116 k
    · rw [if_pos z, if_pos z]
    · obtain ⟨⟨g1, g2⟩, g3⟩ := (a2 k b1 b2).2 (by omega)
      rw [evL_congr (T := mTk c) (T' := mTk c') (F := F) (F' := F) (fun _ _ _ => rfl) _ _ _ _ g3 (fun j j1 j2 => by
        show trT (c 120 j) = trT (c' 120 j)
        rw [h0 j (by omega)])]
  have el : ∀ (w : Int) (n : Nat) (k a : Int), mbH i ≤ k → k + n ≤ meH c i → lsR c' w n k a = lsR c w n k a := by
    intro w n
    induction n with
    | zero => intro k a _ _; rfl
    | succ n ih =>
      intro k a b1 b2
      obtain ⟨e6, e7, -, -⟩ := cl k b1 (by omega)
      rw [lsR, lsR, e6, e7, ih (k + 1) _ (by omega) (by omega)]
  refine ⟨fun z => by rw [h5 z]; exact a1 z, fun k b1 b2 => ?_, fun F => ?_⟩
  · rw [em] at b2
    obtain ⟨e6, e7, e8, e9⟩ := cl k b1 b2
    rw [e6, e7, e8, e9]
    refine ⟨(a2 k b1 b2).1, fun z => ?_⟩
    obtain ⟨⟨g1, g2⟩, g3⟩ := (a2 k b1 b2).2 z
    refine ⟨⟨g1, g2⟩, wfT_congr _ _ _ (fun j j1 j2 => ?_) g3⟩
    show trT (c 120 j) = trT (c' 120 j)
    rw [h0 j (by omega)]
  · obtain ⟨b1, b2, b3, b4⟩ := a3 F
    have mb0 : mbH i ≤ meH c i ∨ meH c i < mbH i := by omega
    rw [em]
    refine ⟨?_, ?_, ?_, ?_⟩
    · rw [← b1]; unfold mlk; rw [em, smR_congr _ _ (fun k j1 j2 => ew F k j1 (by omega))]
    · rw [← b2]
      rcases mb0 with z | z
      · exact el 2 _ _ _ (Int.le_refl _) (by omega)
      · rw [show (meH c i - mbH i).toNat = 0 by omega]; rfl
    · rw [← b3]
      rcases mb0 with z | z
      · exact el 3 _ _ _ (Int.le_refl _) (by omega)
      · rw [show (meH c i - mbH i).toNat = 0 by omega]; rfl
    · intro q hq; rw [h22]; exact b4 q hq
theorem n_house {H : hf} {N I X : ct} {K : SK} {d : Nat} {c : ct} {Q : ct → Int → Prop} (hM : MSR H c N I X) (hP : PU N I X) (h0 : X 0 2 = 6 → Q c (-4)) (h1 : X 0 2 < 6 → (pH (X 1) (X 0 1) 10 0).1 ≠ -1 → ∀ c', loM c c' → MSR H c' N I (x0X X 1 0) → Q c' ((-10) - (pH (X 1) (X 0 1) 10 0).1)) (h2 : X 0 2 < 6 → (pH (X 1) (X 0 1) 10 0).1 = -1 → ∀ c', loM c c' → MSR (hsH H (X 0 2) (pH (X 1) (X 0 1) 10 0).2) c' (hoG N (X 0 2)) I (x0X (x0X X 1 0) 2 (X 0 2 + 1)) → Q c' (X 0 2)) : CI K (d + 10) mX9_house [(2, 108)] c Q := by
  obtain ⟨⟨hT, hW⟩, m29, m3, m4, x0, x1, x2, x3, x4, x5, x6⟩ := hM
  have lt : LT c := ((m4 (-1) (by decide) (by have := hP.2.2.2.2.1; omega)).2.2 (fun _ => 0)).2.2.2
  have hx := hP.2.2.2.2.1
  have hfd := hP.2.2.2.1
  have htx := hP.2.2.2.2.2.2.1
  have hR : MRD c (X 1) (X 0 1) := ⟨⟨x1, hfd⟩, fun i a b => ⟨x4 i a b, htx i a b⟩, lt⟩
  refine e_X9_house (s_X9_house_0 ?_)
  rw [x2]
  refine ⟨fun z => h0 z, fun z => ⟨⟨by omega, by omega⟩, ?_⟩⟩
  have f5 : 0 ≤ X 0 2 ∧ X 0 2 ≤ 5 := by omega
  -- what stays, whatever is read
  have keep : ∀ c4 : ct, (∀ k j, ¬ ((k = 108 ∧ ((13 ≤ j ∧ j ≤ 14) ∨ (23 ≤ j ∧ j ≤ 25) ∨ (10 ≤ j ∧ j ≤ 12))) ∨ ((116 ≤ k ∧ k ≤ 119) ∧ 10 * X 0 2 ≤ j) ∨ (k = 120 ∧ 100 * X 0 2 ≤ j) ∨ k = 121 ∨ (k = 115 ∧ j = X 0 2)) → c4 k j = c k j) → loM c c4 ∧ c4 108 29 = 9999 ∧ MS (vw c4) I ∧ (∀ i, -1 ≤ i → i < X 0 2 → MHR H c4 i) := fun c4 f => by
    refine ⟨fun k a j => f k j (by omega), by rw [f 108 29 (by omega)]; exact m29, ?_, fun i a b => MHR_low (m4 i a b) ⟨a, b⟩ (fun _ => f 115 i (by omega)) (fun k j k1 k2 jl => f k j (by omega)) (fun j jl => f 120 j (by omega)) (fun j => f 122 j (by omega))⟩
    rw [vw_congr (c := c) (fun j a b => f 108 j (by omega)) (fun k a b j => f k j (by omega))]
    exact m3
  refine m_goesText (d := d) hR f5 (fun zf c2 f2 p2 c4 e4 => ?_) (fun zf c2 f2 n2 b2 w2 c4 e4 => ?_)
  · have f4 : ∀ k j, ¬ ((k = 108 ∧ ((13 ≤ j ∧ j ≤ 14) ∨ (23 ≤ j ∧ j ≤ 25) ∨ j = 12)) ∨ ((116 ≤ k ∧ k ≤ 119) ∧ 10 * X 0 2 ≤ j) ∨ (k = 120 ∧ 100 * X 0 2 ≤ j) ∨ k = 121 ∨ (k = 115 ∧ j = X 0 2)) → c4 k j = c k j := fun k j a => by rw [e4]; unfold up2; rw [if_neg (by omega)]; exact f2 k j (by omega)
    obtain ⟨k1, k2, k3, k4⟩ := keep c4 (fun k j a => f4 k j (by omega))
    refine ⟨fun _ => ?_, fun y => absurd rfl y⟩
    rw [show c4 108 13 = (pH (X 1) (X 0 1) 10 0).1 from by rw [e4, up2_ne2 (by decide)]; exact p2]
    refine h1 (by omega) zf c4 k1 ⟨MS_congr ⟨hT, hW⟩ hP.1.2.2.1 (fun k j a => f4 k j (by unfold evP at a; omega)), k2, k3, fun i a b => k4 i a (by rw [x0_k (Or.inr (by decide))] at b; exact b), ?_, ?_, ?_, ?_, fun i a b => ?_, fun i a b e => ?_, fun t a b => ?_⟩
    · rw [f4 108 50 (by omega), x0_k (Or.inr (by decide))]; exact x0
    · rw [e4, up2_self, x0_s]
    · rw [f4 108 10 (by omega), x0_k (Or.inr (by decide))]; exact x2
    · rw [f4 108 72 (by omega), x0_k (Or.inr (by decide))]; exact x3
    · rw [x0_s] at b; omega
    · rw [x0_k (Or.inr (by decide))] at e
      rw [f4 148 i (by omega), x0_k (Or.inl (by decide))]; exact x5 i a b e
    · rw [f4 149 t (by omega), f4 150 t (by omega), x0_k (Or.inl (by decide)), x0_k (Or.inl (by decide))]
      obtain ⟨y1, y2, y3⟩ := x6 t a b
      exact ⟨y1, y2, fun i i0 i1 => by rw [f4 151 _ (by omega), x0_k (Or.inl (by omega))]; exact y3 i i0 i1⟩
  · refine ⟨fun y => absurd y one_ne, fun _ => ⟨ir01.2, fun c6 e6 c7 e7 => ?_⟩⟩
    have g2 : c4 108 10 = X 0 2 := by rw [e4, up2_ne2 (by decide), f2 108 10 (by omega)]; exact x2
    rw [g2] at e6
    rw [show c6 108 10 = X 0 2 from by rw [e6, up2_ne2 (by decide)]; exact g2] at e7
    have f7 : ∀ k j, ¬ (k = 108 ∧ (10 ≤ j ∧ j ≤ 12)) → c7 k j = c2 k j := fun k j a => by rw [e7, e6, e4]; unfold up2; rw [if_neg (by omega), if_neg (by omega), if_neg (by omega)]
    have f4 : ∀ k j, ¬ ((k = 108 ∧ ((13 ≤ j ∧ j ≤ 14) ∨ (23 ≤ j ∧ j ≤ 25) ∨ (10 ≤ j ∧ j ≤ 12))) ∨ ((116 ≤ k ∧ k ≤ 119) ∧ 10 * X 0 2 ≤ j) ∨ (k = 120 ∧ 100 * X 0 2 ≤ j) ∨ k = 121 ∨ (k = 115 ∧ j = X 0 2)) → c7 k j = c k j := fun k j a => by rw [f7 k j (by omega)]; exact f2 k j (by omega)
    have g11 : c7 108 11 = X 0 2 := by rw [e7, up2_ne2 (by decide), e6, up2_self]
    have g10 : c7 108 10 = X 0 2 + 1 := by rw [e7, up2_self]
    have g12 : c7 108 12 = 0 := by rw [e7, up2_ne2 (by decide), e6, up2_ne2 (by decide), e4, up2_self]
    obtain ⟨k1, k2, k3, k4⟩ := keep c7 f4
    have x2' : ∀ k j, ¬ (k = 0 ∧ (j = 1 ∨ j = 2)) → x0X (x0X X 1 0) 2 (X 0 2 + 1) k j = X k j := fun k j a => by rw [x0_k (by omega), x0_k (by omega)]
    have x22 : x0X (x0X X 1 0) 2 (X 0 2 + 1) 0 2 = X 0 2 + 1 := x0_s
    have x21 : x0X (x0X X 1 0) 2 (X 0 2 + 1) 0 1 = 0 := by rw [x0_k (Or.inr (by decide))]; exact x0_s
    have hn13 : hoG N (X 0 2) 0 13 = X 0 2 := by simp [hoG]
    have hnn : ∀ k j, ¬ (k = 0 ∧ j = 13) → hoG N (X 0 2) k j = N k j := fun k j a => by unfold hoG; rw [if_neg a]
    have hrow : ∀ k, k ≠ 0 → hoG N (X 0 2) k = N k := fun k a => funext (fun j => hnn k j (by omega))
    have w7 : MWL c7 (X 0 2) (10 * X 0 2) (pH (X 1) (X 0 1) 10 0).2 := by
      have em : mTk c7 = mTk c2 := by unfold mTk; rw [show c7 120 = c2 120 from funext (fun j => f7 120 j (by omega))]
      have : ∀ (l : List cl4) (k : Int), MWL c2 (X 0 2) k l → MWL c7 (X 0 2) k l := by
        intro l
        induction l with
        | nil => intro k _; trivial
        | cons r l ih =>
          intro k h
          refine ⟨?_, ih (k + 1) h.2⟩
          rw [f7 116 k (by omega), f7 117 k (by omega), f7 118 k (by omega), f7 119 k (by omega), em]
          exact h.1
      exact this _ _ w2
    have n7 : c7 115 (X 0 2) = ((pH (X 1) (X 0 1) 10 0).2.length : Int) := by rw [f7 115 _ (by omega)]; exact n2
    have mb : mbH (X 0 2) = 10 * X 0 2 := by unfold mbH; rw [if_pos f5.1]
    have me : meH c7 (X 0 2) = 10 * X 0 2 + (pH (X 1) (X 0 1) 10 0).2.length := by unfold meH; rw [if_pos f5.1, n7]
    have nl : (meH c7 (X 0 2) - mbH (X 0 2)).toNat = (pH (X 1) (X 0 1) 10 0).2.length := by rw [me, mb]; omega
    have hnew : MHR (hsH H (X 0 2) (pH (X 1) (X 0 1) 10 0).2) c7 (X 0 2) := by
      refine ⟨fun _ => by rw [n7]; omega, fun k a b => ?_, fun F => ⟨?_, ?_, ?_, ?_⟩⟩
      · rw [mb] at a
        rw [me] at b
        obtain ⟨q1, q2⟩ := MWL_at _ _ w7 k a b
        refine ⟨q1, fun y => ?_⟩
        obtain ⟨⟨r1, r2, r3⟩, r4⟩ := q2 y
        exact ⟨⟨⟨r1, r2, by omega⟩, r3⟩, r4⟩
      · unfold mlk hsH
        rw [nl, mb, MWL_sum _ _ w7, if_pos rfl, if_pos rfl]
      · rw [nl, mb]
        unfold hsH
        rw [if_pos rfl, if_neg (by decide), if_pos rfl]
        exact MWL_last (s := 2) _ _ _ w7
      · rw [nl, mb]
        unfold hsH
        rw [if_pos rfl, if_neg (by decide), if_neg (by decide)]
        exact MWL_last (s := 3) _ _ _ w7
      · intro q hq; rw [f4 122 _ (by omega)]; exact lt q hq
    have hold : ∀ i, -1 ≤ i → i < X 0 2 → MHR (hsH H (X 0 2) (pH (X 1) (X 0 1) 10 0).2) c7 i := fun i a b => by
      obtain ⟨u1, u2, u3⟩ := k4 i a b
      have he : ∀ k F, hsH H (X 0 2) (pH (X 1) (X 0 1) 10 0).2 i k F = H i k F := fun k F => by unfold hsH; rw [if_neg (by omega)]
      exact ⟨u1, u2, fun F => by rw [he, he, he]; exact u3 F⟩
    rw [g11]
    refine h2 (by omega) zf c7 k1 ⟨⟨?_, ?_⟩, k2, k3, fun i a b => ?_, ?_, ?_, ?_, ?_, fun i a b => ?_, fun i a b e => ?_, fun t a b => ?_⟩
    · obtain ⟨b0, b3, b4, b5, b1, b2', hr⟩ := hT
      refine ⟨by rw [f4 108 0 (by omega), hnn 0 10 (by omega)]; exact b0, by rw [f4 108 3 (by omega), hnn 0 11 (by omega)]; exact b3, by rw [f4 108 4 (by omega), hnn 0 12 (by omega)]; exact b4, by rw [hn13]; exact ⟨g11, by omega, by omega⟩, by rw [f4 108 1 (by omega), hrow 6 (by decide), hnn 0 10 (by omega)]; exact b1, by rw [f4 108 2 (by omega), hrow 5 (by decide), hnn 0 10 (by omega)]; exact b2', fun p a b => ?_⟩
      rw [hnn 0 10 (by omega)] at b
      rw [f4 109 p (by omega), f4 110 p (by omega), f4 111 p (by omega), f4 112 p (by omega), hrow 1 (by decide), hrow 2 (by decide), hrow 3 (by decide), hrow 4 (by decide), hrow 5 (by decide), hrow 6 (by decide), hrow 7 (by decide)]
      obtain ⟨r1, r2, r3, r4, r5, r6, r7⟩ := hr p a b
      exact ⟨r1, r2, r3, r4, r5, r6, fun i a b => by rw [f4 113 _ (by omega)]; exact r7 i a b⟩
    · exact MRW_G (MRW_congr hW (fun j a => f4 108 j (by omega)) (fun k a j => f4 k j (by omega))) (fun k a j => hnn k j (by omega)) (fun j a => hnn 0 j (by omega))
    · rw [x22] at b
      by_cases y : i = X 0 2
      · rw [y]; exact hnew
      · exact hold i a (by omega)
    · rw [f4 108 50 (by omega), x2' 0 0 (by omega)]; exact x0
    · rw [g12, x21]
    · rw [g10, x22]
    · rw [f4 108 72 (by omega), x2' 0 3 (by omega)]; exact x3
    · rw [x21] at b; omega
    · rw [x2' 0 3 (by omega)] at e
      rw [f4 148 i (by omega), x2' 2 i (by omega)]; exact x5 i a b e
    · rw [f4 149 t (by omega), f4 150 t (by omega), x2' 3 t (by omega), x2' 4 t (by omega)]
      obtain ⟨y1, y2, y3⟩ := x6 t a b
      exact ⟨y1, y2, fun i i0 i1 => by rw [f4 151 _ (by omega), x2' _ i (by omega)]; exact y3 i i0 i1⟩
