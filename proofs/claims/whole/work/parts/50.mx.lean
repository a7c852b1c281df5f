/-! CONTRACTS: the reference's small parts -/
theorem m_in {K : SK} {d : Nat} {c : ct} {Q : ct → Int → Prop} {v a b : Int} (hv : ir v) (ha : ir a) (hb : ir b) (h0 : ¬ (a ≤ v ∧ v ≤ b) → Q c 0) (h1 : a ≤ v → v ≤ b → Q c 1) : CI K (d + 1) mX9_in [(2, 108), (0, v), (0, a), (0, b)] c Q :=
  e_X9_in v a b (s_X9_in_0 v a b ⟨⟨hv, ha⟩, fun z => h0 (by omega), fun z => ⟨⟨hv, hb⟩, fun z2 => h0 (by omega), fun z2 => h1 (by omega) (by omega)⟩⟩)
theorem has_key : ∀ m : Nat, m < 64 → ∀ k : Nat, k < 6 → bAnd (bShr (m : Int) k) 1 = (m : Int) / pw k % 2 := by decide +kernel
theorem m_has {K : SK} {d : Nat} {c : ct} {Q : ct → Int → Prop} {m k : Int} (hm : 0 ≤ m ∧ m < 64) (hk : 0 ≤ k ∧ k < 6) (h : Q c (m / pw k % 2)) : CI K (d + 1) mX9_has [(2, 108), (0, m), (0, k)] c Q := by
  obtain ⟨m', rfl⟩ : ∃ n : Nat, m = n := ⟨m.toNat, by omega⟩
  obtain ⟨k', rfl⟩ : ∃ n : Nat, k = n := ⟨k.toNat, by omega⟩
  have e := has_key m' (by omega) k' (by omega)
  refine e_X9_has _ _ (s_X9_has_0 _ _ ?_)
  rw [e]
  refine ⟨fun z => ?_, fun z => ⟨⟨by omega, by omega⟩, ?_⟩⟩
  · rw [z] at h; exact h
  · have : (m' : Int) / pw k' % 2 = 0 := by omega
    rw [this] at h; exact h
theorem m_least {K : SK} {d : Nat} {c : ct} {Q : ct → Int → Prop} {a b : Int} (ha : ir a) (hb : ir b) (h : Q c (if a < b then a else b)) : CI K (d + 1) mX9_least [(2, 108), (0, a), (0, b)] c Q := by
  refine e_X9_least a b (s_X9_least_0 a b ⟨⟨ha, hb⟩, fun z => ?_, fun z => ?_⟩)
  · rw [if_neg (by omega)] at h; exact h
  · rw [if_pos (by omega)] at h; exact h
theorem m_bits {K : SK} {d : Nat} {c : ct} {Q : ct → Int → Prop} {m : Int} (hm : 0 ≤ m ∧ m < 64) (h : Q c (cnt6 m)) : CI K (d + 2) mX9_bits [(2, 108), (0, m)] c Q := by
  have loop : ∀ (n : Nat) (k a : Int), k = 6 - n → 0 ≤ k → Q c (a + smR (fun j => m / pw j % 2) n k) → WI K (d + 2) mX9_bits 4 [(2, 108), (0, m), (0, a), (0, k)] [] c Q := by
    intro n
    induction n with
    | zero =>
      intro k a hk k0 hq
      refine s_X9_bits_4 m a k ⟨⟨by omega, by omega⟩, fun _ => ?_, fun z => absurd (by omega) z⟩
      simpa [smR] using hq
    | succ n ih =>
      intro k a hk k0 hq
      rw [smR, ← Int.add_assoc] at hq
      refine s_X9_bits_4 m a k ⟨⟨by omega, by omega⟩, fun z => absurd z (by omega), fun _ => m_has hm ⟨k0, by omega⟩ ⟨fun z => ih _ _ (by omega) (by omega) ?_, fun z => ⟨⟨by omega, by omega⟩, ih _ _ (by omega) (by omega) ?_⟩⟩⟩
      · rw [z] at hq; exact hq
      · have : m / pw k % 2 = 1 := by omega
        rw [this] at hq; exact hq
  refine e_X9_bits m (s_X9_bits_0 m (loop 6 0 0 (by decide) (by decide) ?_))
  have e : (0 : Int) + smR (fun j => m / pw j % 2) 6 0 = cnt6 m := by
    simp only [smR, cnt6]
    have p0 : pw 0 = 1 := rfl
    have p1 : pw (0 + 1) = 2 := rfl
    have p2 : pw (0 + 1 + 1) = 4 := rfl
    have p3 : pw (0 + 1 + 1 + 1) = 8 := rfl
    have p4 : pw (0 + 1 + 1 + 1 + 1) = 16 := rfl
    have p5 : pw (0 + 1 + 1 + 1 + 1 + 1) = 32 := rfl
    rw [p0, p1, p2, p3, p4, p5]
    omega
  rw [e]
  exact h
theorem m_isGuest {K : SK} {d : Nat} {c : ct} {Q : ct → Int → Prop} {p n : Int} (hp : ir p) (hn : c 108 0 = n ∧ 0 ≤ n ∧ n ≤ 6) (h0 : ¬ (0 ≤ p ∧ p < n) → Q c 0) (h1 : 0 ≤ p → p < n → Q c 1) : CI K (d + 2) mX9_isGuest [(2, 108), (0, p)] c Q := by
  refine e_X9_isGuest p (s_X9_isGuest_0 p ?_)
  rw [hn.1]
  exact m_in hp ir01.1 ⟨by omega, by omega⟩ (fun z => ⟨Or.inl rfl, h0 (by omega)⟩) (fun a b => ⟨Or.inr rfl, h1 a (by omega)⟩)
theorem m_isSeat {K : SK} {d : Nat} {c : ct} {Q : ct → Int → Prop} {p : Int} (hp : ir p) (h0 : ¬ (0 ≤ p ∧ p < 6) → Q c 0) (h1 : 0 ≤ p → p < 6 → Q c 1) : CI K (d + 2) mX9_isSeat [(2, 108), (0, p)] c Q :=
  e_X9_isSeat p (s_X9_isSeat_0 p (m_in hp ir01.1 ⟨by decide, by decide⟩ (fun z => ⟨Or.inl rfl, h0 (by omega)⟩) (fun a b => ⟨Or.inr rfl, h1 a (by omega)⟩)))
theorem m_isYears {K : SK} {d : Nat} {c : ct} {Q : ct → Int → Prop} {p : Int} (hp : ir p) (h0 : ¬ (0 ≤ p ∧ p ≤ 60) → Q c 0) (h1 : 0 ≤ p → p ≤ 60 → Q c 1) : CI K (d + 2) mX9_isYears [(2, 108), (0, p)] c Q :=
  e_X9_isYears p (s_X9_isYears_0 p (m_in hp ir01.1 ⟨by decide, by decide⟩ (fun z => ⟨Or.inl rfl, h0 (by omega)⟩) (fun a b => ⟨Or.inr rfl, h1 a (by omega)⟩)))
theorem m_isTape {K : SK} {d : Nat} {c : ct} {Q : ct → Int → Prop} {p : Int} (hp : ir p) (h0 : ¬ (0 ≤ p ∧ p < 6) → Q c 0) (h1 : 0 ≤ p → p < 6 → Q c 1) : CI K (d + 2) mX9_isTape [(2, 108), (0, p)] c Q :=
  e_X9_isTape p (s_X9_isTape_0 p (m_in hp ir01.1 ⟨by decide, by decide⟩ (fun z => ⟨Or.inl rfl, h0 (by omega)⟩) (fun a b => ⟨Or.inr rfl, h1 a (by omega)⟩)))
theorem m_whoSits {G : ct} {K : SK} {d : Nat} {c : ct} {Q : ct → Int → Prop} {s : Int} (hs : ir s) (hn : c 108 0 = G 0 10 ∧ 0 ≤ G 0 10 ∧ G 0 10 ≤ 6) (h3 : ∀ p, 0 ≤ p → p < G 0 10 → c 111 p = G 3 p ∧ 0 ≤ G 3 p ∧ G 3 p < 6) (h : Q c (whG G s)) : CI K (d + 1) mX9_whoSits [(2, 108), (0, s)] c Q := by
  have loop : ∀ (n : Nat) (i : Int), i = G 0 10 - n → 0 ≤ i → Q c (wsR (G 3) s n i) → WI K (d + 1) mX9_whoSits 2 [(2, 108), (0, s), (0, i)] [] c Q := by
    intro n
    induction n with
    | zero =>
      intro i hi i0 hq
      refine s_X9_whoSits_2 s i ?_
      rw [hn.1]
      exact ⟨⟨⟨by omega, by omega⟩, ⟨by omega, by omega⟩⟩, fun _ => hq, fun z => absurd (by omega) z⟩
    | succ n ih =>
      intro i hi i0 hq
      have e := h3 i i0 (by omega)
      rw [wsR] at hq
      refine s_X9_whoSits_2 s i ?_
      rw [hn.1, e.1]
      refine ⟨⟨⟨by omega, by omega⟩, ⟨by omega, by omega⟩⟩, fun z => absurd z (by omega), fun _ => ⟨⟨i0, by omega⟩, fun z => ?_, fun z => ⟨⟨⟨by omega, by omega⟩, hs⟩, ih _ (by omega) (by omega) ?_⟩⟩⟩
      · rw [if_pos z] at hq; exact hq
      · rw [if_neg z] at hq; exact hq
  exact e_X9_whoSits s (s_X9_whoSits_0 s (loop (G 0 10).toNat 0 (by omega) (by decide) h))
