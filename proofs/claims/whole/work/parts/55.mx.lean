/-! CONTRACTS: the reference's fond of all -/
def LKD (H : hf) (c G : ct) : Prop := ∀ p o, 0 ≤ p → p < G 0 10 → 0 ≤ o → o < G 0 10 → o ≠ p → c 124 (6 * p + o) = lkG H G (G 0 12) p o ∧ -1000 ≤ lkG H G (G 0 12) p o ∧ lkG H G (G 0 12) p o ≤ 1000
theorem m_allFondBy {H : hf} {c G : ct} {K : SK} {d : Nat} {Q : ct → Int → Prop} (hM : MT c G) (hL : MCL c) (hw : lsR c 3 (bhM c - bgM c).toNat (bgM c) 6 = H (G 0 13) 2 (fun _ => 0)) (hk : LKD H c G) (h : Q c (allG H G (G 0 12))) : CI K (d + 5) mX9_allFondBy [(2, 108)] c Q := by
  obtain ⟨e0, n0, n6⟩ := hM.1
  have loop : ∀ (n : Nat) (p a : Int), p = G 0 10 - n → 0 ≤ p → Q c (a + smR (fdG H G (G 0 12)) n p) → WI K (d + 5) mX9_allFondBy 4 [(2, 108), (0, a), (0, p)] [] c Q := by
    intro n
    induction n with
    | zero =>
      intro p a hp p0 hq
      refine s_X9_allFondBy_4 a p ?_
      rw [e0]
      refine ⟨⟨⟨by omega, by omega⟩, ⟨by omega, by omega⟩⟩, fun _ => ?_, fun z => absurd (by omega) z⟩
      simpa [smR] using hq
    | succ n ih =>
      intro p a hp p0 hq
      rw [smR, ← Int.add_assoc] at hq
      refine s_X9_allFondBy_4 a p ?_
      rw [e0]
      exact ⟨⟨⟨by omega, by omega⟩, ⟨by omega, by omega⟩⟩, fun z => absurd z (by omega), fun _ => m_fondBy hM hL hw (fun o a b q => hk p o p0 (by omega) a b q) ⟨p0, by omega⟩ (ih _ _ (by omega) (by omega) hq)⟩
  exact e_X9_allFondBy (s_X9_allFondBy_0 (loop (G 0 10).toNat 0 0 (by omega) (by decide) (by rw [Int.zero_add]; exact h)))
