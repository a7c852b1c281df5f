/-! CONTRACTS: the public calls, fifth lot -/
theorem o_see {H : hf} {N I X : ct} {K : SK} {d : Nat} {c : ct} {Q : ct → Int → Prop} (hC : CSR H c N I X) {p e n : Int} (hp : ir p) (he : e = 0 ∨ e = 1) (hn : ir n) (hm : ∀ c', p = -1 → loK c c' → CSR H c' (szG N 20 0) I X → Q c' 0) (h0 : p ≠ -1 → ¬ isG N p → Q c (-1)) (h1 : isG N p → ¬ (0 ≤ n ∧ n ≤ 20) → Q c (-2)) (h2 : isG N p → 0 ≤ n → n ≤ 20 → N 0 20 = 5 → Q c (-4)) (h3 : ∀ c', isG N p → 0 ≤ n → n ≤ 20 → N 0 20 < 5 → loK c c' → CSR H c' (adG N 20 p e n) I X → Q c' (N 0 20 + 1)) : CI K (d + 2) mX8_see [(2, 0), (0, p), (0, e), (0, n)] c Q := by
  refine e_X8_see p e n (s_X8_see_0 p e n ⟨fun z => o_empty hC (Or.inl ⟨rfl, rfl, rfl⟩) (fun c' a b => hm c' z a b), fun z => ⟨hp, ?_⟩⟩)
  refine g_isGuest hC p hp (fun q => ⟨fun _ => h0 z q, fun q2 => absurd rfl q2⟩) (fun g1 g2 => ⟨fun q => absurd q one_ne, fun _ => ⟨ir01.2, hn, fun q => h1 ⟨g1, g2⟩ (by omega), fun q => ⟨hn, fun q2 => ?_, fun q2 => h1 ⟨g1, g2⟩ (by omega)⟩⟩⟩)
  refine k_X8_oneIf _ (ir_01 he) ?_
  rw [e01 he]
  exact o_add hC (Or.inl ⟨rfl, rfl, rfl⟩) (INV_ad hC.2.2.1.1 (Or.inl ⟨rfl, ⟨g1, g2⟩, he, by omega, q2⟩)) (fun q3 => h2 ⟨g1, g2⟩ (by omega) q2 q3) (fun c' lt a b => h3 c' ⟨g1, g2⟩ (by omega) q2 lt a b)
theorem o_book {H : hf} {N I X : ct} {K : SK} {d : Nat} {c : ct} {Q : ct → Int → Prop} (hC : CSR H c N I X) {p s : Int} (hp : ir p) (hs : ir s) (hm : ∀ c', p = -1 → loK c c' → CSR H c' (szG N 28 0) I X → Q c' 0) (h0 : p ≠ -1 → ¬ (isG N p ∧ 0 ≤ s ∧ s < 6) → Q c (-1)) (h2 : isG N p → 0 ≤ s → s < 6 → N 0 28 = 8 → Q c (-4)) (h3 : ∀ c', isG N p → 0 ≤ s → s < 6 → N 0 28 < 8 → loK c c' → CSR H c' (adG N 28 p s 0) I X → Q c' (N 0 28 + 1)) : CI K (d + 2) mX8_book [(2, 0), (0, p), (0, s)] c Q := by
  refine e_X8_book p s (s_X8_book_0 p s ⟨fun z => o_empty hC (Or.inr (Or.inr ⟨rfl, rfl, rfl⟩)) (fun c' a b => hm c' z a b), fun z => ⟨hp, ?_⟩⟩)
  refine g_isGuest hC p hp (fun q => ⟨fun _ => h0 z (fun b => q b.1), fun q2 => absurd rfl q2⟩) (fun g1 g2 => ⟨fun q => absurd q one_ne, fun _ => ⟨ir01.2, ?_⟩⟩)
  refine g_isSeat s hs (fun q => ⟨fun _ => h0 z (fun b => q b.2), fun q2 => absurd rfl q2⟩) (fun s1 s2 => ⟨fun q => absurd q one_ne, fun _ => ⟨ir01.2, ?_⟩⟩)
  exact o_add hC (Or.inr (Or.inr ⟨rfl, rfl, rfl⟩)) (INV_ad hC.2.2.1.1 (Or.inr (Or.inr ⟨rfl, ⟨g1, g2⟩, s1, s2⟩))) (fun q3 => h2 ⟨g1, g2⟩ s1 s2 q3) (fun c' lt a b => h3 c' ⟨g1, g2⟩ s1 s2 lt a b)
/-- what may be planned -/
def isP (N : ct) (w n : Int) : Prop := w = 0 ∨ ((w = 1 ∨ w = 2) ∧ isG N n) ∨ (w = 3 ∧ 0 ≤ n ∧ n < 6)
theorem o_plan {H : hf} {N I X : ct} {K : SK} {d : Nat} {c : ct} {Q : ct → Int → Prop} (hC : CSR H c N I X) {w n : Int} (hw : ir w) (hn : ir n) (hm : ∀ c', w = -1 → loK c c' → CSR H c' (szG N 24 0) I X → Q c' 0) (h0 : w ≠ -1 → ¬ isP N w n → Q c (-1)) (h2 : isP N w n → N 0 24 = 10 → Q c (-4)) (h3 : ∀ c', isP N w n → N 0 24 < 10 → loK c c' → CSR H c' (adG N 24 w n 0) I X → Q c' (N 0 24 + 1)) : CI K (d + 2) mX8_plan [(2, 0), (0, w), (0, n)] c Q := by
  have yes : isP N w n → WI K (d + 2) mX8_plan 50 [(2, 0), (0, w), (0, n), (9, 0)] [] c Q := by
    intro hp
    refine s_X8_plan_50 w n (o_add hC (Or.inr (Or.inl ⟨rfl, rfl, rfl⟩)) (INV_ad hC.2.2.1.1 (Or.inr (Or.inl ⟨rfl, ?_, ?_, ?_⟩))) (fun q3 => h2 hp q3) (fun c' lt a b => h3 c' hp lt a b))
    · unfold isP at hp; omega
    · intro q; rcases hp with a | a | a
      · omega
      · exact a.2
      · omega
    · intro q; rcases hp with a | a | a
      · omega
      · omega
      · exact a.2
  have no : w ≠ -1 → ¬ isP N w n → WI K (d + 2) mX8_plan 54 [(2, 0), (0, w), (0, n), (9, 0)] [] c Q := fun a b => s_X8_plan_54 w n (h0 a b)
  refine e_X8_plan w n (s_X8_plan_0 w n ⟨fun z => o_empty hC (Or.inr (Or.inl ⟨rfl, rfl, rfl⟩)) (fun c' a b => hm c' z a b), fun z => ⟨hw, fun w0 => yes (Or.inl w0), fun w0 => ⟨hw, fun w1 => ?_, fun w1 => ⟨hw, fun w2 => ?_, fun w2 => ⟨hw, fun w3 => ?_, fun w3 => ⟨hw, no z ?_⟩⟩⟩⟩⟩⟩)
  · refine g_isGuest hC n hn (fun q => ⟨fun _ => ⟨fun e => absurd e (by omega), fun e => ⟨hw, no z (fun hp => ?_)⟩⟩, fun q2 => absurd rfl q2⟩) (fun g1 g2 => ⟨fun q => absurd q one_ne, fun _ => ⟨ir01.2, yes (Or.inr (Or.inl ⟨Or.inl w1, g1, g2⟩))⟩⟩)
    rcases hp with a | a | a
    · exact w0 a
    · exact q a.2
    · omega
  · refine g_isGuest hC n hn (fun q => ⟨fun _ => ⟨fun e => absurd e (by omega), fun e => ⟨hw, no z (fun hp => ?_)⟩⟩, fun q2 => absurd rfl q2⟩) (fun g1 g2 => ⟨fun q => absurd q one_ne, fun _ => ⟨ir01.2, yes (Or.inr (Or.inl ⟨Or.inr w2, g1, g2⟩))⟩⟩)
    rcases hp with a | a | a
    · exact w0 a
    · exact q a.2
    · omega
  · refine g_isSeat n hn (fun q => ⟨fun _ => no z (fun hp => ?_), fun q2 => absurd rfl q2⟩) (fun g1 g2 => ⟨fun q => absurd q one_ne, fun _ => ⟨ir01.2, yes (Or.inr (Or.inr ⟨w3, g1, g2⟩))⟩⟩)
    rcases hp with a | a | a
    · exact w0 a
    · omega
    · exact q a.2
  · intro hp
    rcases hp with a | a | a
    · exact w0 a
    · omega
    · exact w3 a.1
theorem rws {H : hf} {c N I X : ct} (hC : CSR H c N I X) : RW c 12 5 N 20 ∧ RW c 16 10 N 24 ∧ RW c 20 8 N 28 := hC.1.2.2
/-- the first of the booked that sits elsewhere -/
def lkR (N : ct) : Nat → Int → Int
  | 0, _ => -5
  | n + 1, i => if N 3 (N 29 i) = N 30 i then lkR N n (i + 1) else i
theorem o_looked {H : hf} {N I X : ct} {K : SK} {d : Nat} {c : ct} {Q : ct → Int → Prop} (hC : CSR H c N I X) (h : Q c (lkR N (N 0 28).toNat 0)) : CI K (d + 2) mX8_looked [(2, 0)] c Q := by
  obtain ⟨-, -, b1, b2, b3, b4⟩ := rws hC
  have hI := hC.2.2.1.1.2.2.2
  have hn := hC.n
  have loop : ∀ (n : Nat) (i : Int), i = N 0 28 - n → 0 ≤ i → Q c (lkR N n i) → WI K (d + 2) mX8_looked 2 [(2, 0), (0, i), (9, 0)] [] c Q := by
    intro n
    induction n with
    | zero =>
      intro i hi h0 hq
      refine s_X8_looked_2 i ?_
      rw [b2]
      exact ⟨⟨⟨by omega, by omega⟩, ⟨by omega, by omega⟩⟩, fun _ => hq, fun z => absurd (by omega) z⟩
    | succ n ih =>
      intro i hi h0 hq
      have e1 : c 21 i = N 29 i := (b4 i h0 (by omega)).1
      have e2 : c 22 i = N 30 i := (b4 i h0 (by omega)).2.1
      obtain ⟨v1, v2⟩ := hI i h0 (by omega)
      have e3 : c 27 (N 29 i) = N 3 (N 29 i) := (hC.now.2.2.2.2.1 _ v1.1 v1.2).1.2.2.1
      have r3 := (RT_p hC.now v1).2.2.1
      refine s_X8_looked_2 i ?_
      rw [b2, e1]
      rw [lkR] at hq
      refine ⟨⟨⟨by omega, by omega⟩, ⟨by omega, by omega⟩⟩, fun z => absurd z (by omega), fun _ => ⟨⟨h0, by omega⟩, g_isGuest hC _ ⟨by omega, by omega⟩ (fun q => absurd v1 q) (fun _ _ => ⟨fun q => absurd q one_ne, fun _ => ⟨ir01.2, ⟨v1.1, by omega⟩, ⟨h0, by omega⟩, ?_⟩⟩)⟩⟩
      refine ⟨fun q => ih _ (by omega) (by omega) ?_, fun q => ⟨⟨by rw [e3]; exact ⟨by omega, by omega⟩, by rw [e2]; exact ⟨by omega, by omega⟩⟩, ?_⟩⟩
      · have q' : N 3 (N 29 i) = N 30 i := by rw [← e3, ← e2]; exact q
        rw [if_pos q'] at hq; exact hq
      · have q' : ¬ N 3 (N 29 i) = N 30 i := by rw [← e3, ← e2]; exact q
        rw [if_neg q'] at hq; exact hq
  exact e_X8_looked (s_X8_looked_0 (loop (N 0 28).toNat 0 (by omega) (by omega) h))
/-- whether one of those seen this year is otherwise in M -/
def otR (N M : ct) (y : Int) : Nat → Int → Int
  | 0, _ => 0
  | n + 1, i => if N 23 i = y ∧ ¬ M 5 (N 21 i) = N 22 i then 1 else otR N M y n (i + 1)
theorem o_oneSeen {H : hf} {N M I X : ct} {K : SK} {d : Nat} {c : ct} {Q : ct → Int → Prop} (hC : CSR H c N I X) (hM : RT H c 59 M) (hnM : M 0 10 = N 0 10) {y : Int} (hy : ir y) (h : Q c (otR N M y (N 0 20).toNat 0)) : CI K (d + 2) mX8_isOneSeenOtherwise [(2, 0), (0, y)] c Q := by
  obtain ⟨⟨-, b2, b3, b4⟩, -, -⟩ := rws hC
  have hI := hC.2.2.1.1.2.1
  have hn := hC.n
  have loop : ∀ (n : Nat) (i : Int), i = N 0 20 - n → 0 ≤ i → Q c (otR N M y n i) → WI K (d + 2) mX8_isOneSeenOtherwise 10 [(2, 0), (0, y), (2, 12), (0, i), (9, 0)] [] c Q := by
    intro n
    induction n with
    | zero =>
      intro i hi h0 hq
      refine s_X8_isOneSeenOtherwise_10 y i ?_
      rw [b2]
      exact ⟨⟨⟨by omega, by omega⟩, ⟨by omega, by omega⟩⟩, fun _ => hq, fun z => absurd (by omega) z⟩
    | succ n ih =>
      intro i hi h0 hq
      have e1 : c 13 i = N 21 i := (b4 i h0 (by omega)).1
      have e2 : c 14 i = N 22 i := (b4 i h0 (by omega)).2.1
      have e3 : c 15 i = N 23 i := (b4 i h0 (by omega)).2.2
      obtain ⟨v1, v2, v3⟩ := hI i h0 (by omega)
      have e5 : c 64 (N 21 i) = M 5 (N 21 i) := (hM.2.2.2.2.1 _ v1.1 (by omega)).1.2.2.2.2.1
      have r5 := (RT_p hM (p := N 21 i) ⟨v1.1, by omega⟩).2.2.2.2.1
      refine s_X8_isOneSeenOtherwise_10 y i ?_
      rw [b2, e1, e3]
      rw [otR] at hq
      refine ⟨⟨⟨by omega, by omega⟩, ⟨by omega, by omega⟩⟩, fun z => absurd z (by omega), fun _ => ⟨⟨h0, by omega⟩, ⟨h0, by omega⟩, fun q => ?_, fun q => ⟨⟨⟨by omega, by omega⟩, hy⟩, ih _ (by omega) (by omega) ?_⟩⟩⟩
      · refine g_isGuest hC _ ⟨by omega, by omega⟩ (fun q => absurd v1 q) (fun _ _ => ⟨fun q => absurd q one_ne, fun _ => ⟨ir01.2, ⟨v1.1, by omega⟩, ?_⟩⟩)
        rw [e5]
        refine k_X8_oneIf _ (ir_01 r5) ?_
        rw [e01 r5, e2]
        refine ⟨⟨h0, by omega⟩, fun s => ih _ (by omega) (by omega) ?_, fun s => ⟨⟨ir_01 r5, ir_01 v2⟩, ?_⟩⟩
        · rw [if_neg (fun b => b.2 s)] at hq; exact hq
        · rw [if_pos ⟨q, s⟩] at hq; exact hq
      · rw [if_neg (fun b => q b.1)] at hq; exact hq
  exact e_X8_isOneSeenOtherwise y (s_X8_isOneSeenOtherwise_0 y (loop (N 0 20).toNat 0 (by omega) (by omega) h))
def alR (H : hf) (N : ct) : Nat → ct → Int → Int
  | 0, _, _ => 1
  | n + 1, M, y => if otR N M y (N 0 20).toNat 0 = 0 then alR H N n (yrG H M 1) (y + 1) else 0
/-- whether all is as seen, from M on -/
def asR (H : hf) (N M : ct) : Int := alR H N (gtR (N 23) (N 0 20).toNat 0 (-1) + 1).toNat M 0
theorem gtR_r {f : Int → Int} : ∀ (n : Nat) (i a : Int), -1 ≤ a ∧ a ≤ 20 → (∀ j, i ≤ j → j < i + n → 0 ≤ f j ∧ f j ≤ 20) → -1 ≤ gtR f n i a ∧ gtR f n i a ≤ 20 := by
  intro n
  induction n with
  | zero => intro i a ha _; exact ha
  | succ n ih =>
    intro i a ha h
    rw [gtR]
    have := h i (by omega) (by omega)
    exact ih _ _ (by split <;> omega) (fun j g1 g2 => h j (by omega) (by omega))
theorem otR_01 {N M : ct} {y : Int} : ∀ (n : Nat) (i : Int), otR N M y n i = 0 ∨ otR N M y n i = 1 := by
  intro n
  induction n with
  | zero => intro i; exact Or.inl rfl
  | succ n ih =>
    intro i
    rw [otR]
    split
    · exact Or.inr rfl
    · exact ih _
