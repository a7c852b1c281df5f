/-! CONTRACTS: small ones of the class -/
theorem k_X8_oneIf {K : SK} {d : Nat} {c : ct} {Q : ct → Int → Prop} (a0 : Int) (hr : ir a0) (h : Q c (if a0 = 0 then 0 else 1)) : CI K (d + 1) mX8_oneIf [(0, a0)] c Q := by
  refine e_X8_oneIf _ (s_X8_oneIf_0 _ ?_)
  grind
theorem k_X8_isSeat {K : SK} {d : Nat} {c : ct} {Q : ct → Int → Prop} (a0 : Int) (hr : ir a0) (h : Q c (if 0 ≤ a0 ∧ a0 < 6 then 1 else 0)) : CI K (d + 1) mX8_isSeat [(0, a0)] c Q := by
  refine e_X8_isSeat _ (s_X8_isSeat_0 _ ?_)
  grind
theorem k_X8_isGuest {K : SK} {d : Nat} {c : ct} {Q : ct → Int → Prop} (a0 : Int) (hr : ir a0) (hn : ir (c 24 10)) (h : Q c (if 0 ≤ a0 ∧ a0 < c 24 10 then 1 else 0)) : CI K (d + 1) mX8_isGuest [(2, 0), (0, a0)] c Q := by
  refine e_X8_isGuest _ (s_X8_isGuest_0 _ ?_)
  grind
/-- a table's ranges -/
def TR (c : ct) (t : Int) : Prop := (0 ≤ c t 10 ∧ c t 10 ≤ 6) ∧ (0 ≤ c t 11 ∧ c t 11 < 6) ∧ (0 ≤ c t 12 ∧ c t 12 ≤ 20000) ∧ isHou (c t 13) ∧ (∀ p, 0 ≤ p → p < 6 → (0 ≤ c (t + 1) p ∧ c (t + 1) p < 7) ∧ (0 ≤ c (t + 2) p ∧ c (t + 2) p ≤ 9) ∧ (0 ≤ c (t + 3) p ∧ c (t + 3) p < 6) ∧ (0 ≤ c (t + 4) p ∧ c (t + 4) p ≤ 20000) ∧ (c (t + 5) p = 0 ∨ c (t + 5) p = 1) ∧ (c (t + 6) p = 0 ∨ c (t + 6) p = 1) ∧ (-1 ≤ c (t + 8) p ∧ c (t + 8) p < 6)) ∧ (∀ i, 0 ≤ i → i < 24 → 0 ≤ c (t + 7) i ∧ c (t + 7) i ≤ 9) ∧ (∀ i, 0 ≤ i → i < 36 → -1000 ≤ c (t + 9) i ∧ c (t + 9) i ≤ 1000)
def nbA (c : ct) (t s : Int) : Int := if c (t + 8) s < 0 then -1 else if c (t + 6) (c (t + 8) s) = 0 then (if c (t + 1) (c (t + 8) s) = 4 then -1 else c (t + 8) s) else -1
theorem k_X6_neighbourAt {K : SK} {d : Nat} {c : ct} {Q : ct → Int → Prop} {t : Int} (ht : isTab t) (hT : TR c t) (s : Int) (hs : 0 ≤ s ∧ s < 6) (h : Q c (nbA c t s)) : CI K (d + 1) mX6_neighbourAt [(2, t), (0, s)] c Q := by
  refine e_X6_neighbourAt t ht _ (s_X6_neighbourAt_0 t ht _ ?_)
  obtain ⟨-, -, -, -, hp, -, -⟩ := hT
  have h1 := hp s hs.1 hs.2
  have h2 := hp (c (t + 8) s)
  unfold nbA at h
  grind [ir]
