/-! CONTRACTS: the reference's clauses that hold -/
def bgM (c : ct) : Int := if 0 ≤ c 108 11 then 10 * c 108 11 else 0
def bhM (c : ct) : Int := if 0 ≤ c 108 11 then 10 * c 108 11 + c 115 (c 108 11) else 0
/-- the houses of the reference that were read -/
def MCL (c : ct) : Prop := (-1 ≤ c 108 11 ∧ c 108 11 < 6) ∧ (0 ≤ c 108 11 → 0 ≤ c 115 (c 108 11) ∧ c 115 (c 108 11) ≤ 10) ∧ ∀ k, bgM c ≤ k → k < bhM c → (0 ≤ c 116 k ∧ c 116 k ≤ 3) ∧ 0 ≤ c 117 k ∧ c 117 k ≤ 99
theorem bg_r {c : ct} (h : MCL c) : 0 ≤ bgM c ∧ bgM c ≤ bhM c ∧ bhM c ≤ 60 ∧ bhM c ≤ bgM c + 10 := by
  have := h.1
  have h2 := h.2.1
  unfold bgM bhM
  by_cases z : 0 ≤ c 108 11
  · have := h2 z
    rw [if_pos z, if_pos z]; omega
  · rw [if_neg z, if_neg z]; omega
theorem m_begin {c : ct} {K : SK} {d : Nat} {Q : ct → Int → Prop} (h : MCL c) (hq : Q c (bgM c)) : CI K (d + 1) mX9_begin [(2, 108)] c Q := by
  have := h.1
  unfold bgM at hq
  refine e_X9_begin (s_X9_begin_0 ⟨⟨by omega, by omega⟩, fun z => ?_, fun z => ?_⟩)
  · rw [if_pos z] at hq; exact hq
  · rw [if_neg z] at hq; exact hq
theorem m_behind {c : ct} {K : SK} {d : Nat} {Q : ct → Int → Prop} (h : MCL c) (hq : Q c (bhM c)) : CI K (d + 1) mX9_behind [(2, 108)] c Q := by
  have := h.1
  unfold bhM at hq
  refine e_X9_behind (s_X9_behind_0 ⟨⟨by omega, by omega⟩, fun z => ⟨⟨z, by omega⟩, ?_⟩, fun z => ?_⟩)
  · rw [if_pos z] at hq; exact hq
  · rw [if_neg z] at hq; exact hq
def lsR (c : ct) (w : Int) : Nat → Int → Int → Int
  | 0, _, a => a
  | n + 1, k, a => lsR c w n (k + 1) (if c 116 k = w then c 117 k else a)
theorem m_lastOf {c : ct} {K : SK} {d : Nat} {Q : ct → Int → Prop} {w a : Int} (h : MCL c) (hw : ir w) (hq : Q c (lsR c w (bhM c - bgM c).toNat (bgM c) a)) : CI K (d + 2) mX9_lastOf [(2, 108), (0, w), (0, a)] c Q := by
  have hb := bg_r h
  have loop : ∀ (n : Nat) (k a : Int), k = bhM c - n → bgM c ≤ k → Q c (lsR c w n k a) → WI K (d + 2) mX9_lastOf 8 [(2, 108), (0, w), (9, 0), (0, a), (0, k)] [] c Q := by
    intro n
    induction n with
    | zero =>
      intro k a hk k0 hq
      exact s_X9_lastOf_8 w a k (m_behind h ⟨⟨⟨by omega, by omega⟩, ⟨by omega, by omega⟩⟩, fun _ => hq, fun z => absurd (by omega) z⟩)
    | succ n ih =>
      intro k a hk k0 hq
      have hc := h.2.2 k k0 (by omega)
      rw [lsR] at hq
      refine s_X9_lastOf_8 w a k (m_behind h ⟨⟨⟨by omega, by omega⟩, ⟨by omega, by omega⟩⟩, fun z => absurd z (by omega), fun _ => ⟨⟨by omega, by omega⟩, fun z => ⟨⟨by omega, by omega⟩, ih _ _ (by omega) (by omega) ?_⟩, fun z => ⟨⟨⟨by omega, by omega⟩, hw⟩, ih _ _ (by omega) (by omega) ?_⟩⟩⟩)
      · rw [if_pos z] at hq; exact hq
      · rw [if_neg z] at hq; exact hq
  exact e_X9_lastOf w a (s_X9_lastOf_0 w a (m_begin h (loop (bhM c - bgM c).toNat (bgM c) a (by omega) (Int.le_refl _) hq)))
