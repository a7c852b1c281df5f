/-! CONTRACTS: the reader's words; what a house takes down -/
def wc (si : Nat) (i : Int) : Int := (strB.getD si []).getD i.toNat 0
def wl4 (si : Nat) : Nat := strLen.getD si 0
theorem wl_r {si : Nat} (h : si < 4) : 5 ≤ wl4 si ∧ wl4 si ≤ 7 := by
  have : si = 0 ∨ si = 1 ∨ si = 2 ∨ si = 3 := by omega
  rcases this with rfl | rfl | rfl | rfl <;> decide
theorem wc_b : ∀ si : Nat, si < 4 → ∀ i : Nat, i < wl4 si → toC (bAnd ((strB.getD si []).getD (Int.toNat (i : Int)) 0) 255) = wc si i ∧ narrow .char (.int (Int32.ofInt (toC (bAnd ((strB.getD si []).getD (Int.toNat (i : Int)) 0) 255)))) = .int (Int32.ofInt (toC (bAnd ((strB.getD si []).getD (Int.toNat (i : Int)) 0) 255))) ∧ 0 ≤ wc si i ∧ wc si i ≤ 127 := by decide +kernel
theorem k_length {K : SK} {d : Nat} {c : ct} {Q : ct → Int → Prop} {si : Nat} (hs : si < 4) (h : Q c (wl4 si)) : CI K (d + 2) mJ0_length_8abf5 [(3, ((6 + si : Nat) : Int))] c Q := by
  refine e_J0_length_8abf5 si hs (s_J0_length_8abf5_0 si hs (e_J0_coder_7d493 si hs (s_J0_coder_7d493_0 si hs ?_)))
  have : bShr ((strLen.getD si 0 : Nat) : Int) 0 = (wl4 si : Int) := by
    have : si = 0 ∨ si = 1 ∨ si = 2 ∨ si = 3 := by omega
    rcases this with rfl | rfl | rfl | rfl <;> decide
  rw [this]
  exact h
theorem k_charAt {K : SK} {d : Nat} {c : ct} {Q : ct → Int → Prop} {si : Nat} (hs : si < 4) {i : Int} (hi : 0 ≤ i ∧ i < wl4 si) (h : Q c (wc si i)) : CI K (d + 4) mJ0_charAt_5068e [(3, ((6 + si : Nat) : Int)), (0, i)] c Q := by
  have hl := wl_r hs
  obtain ⟨n, rfl⟩ : ∃ n : Nat, i = n := ⟨i.toNat, by omega⟩
  have hb := wc_b si hs n (by omega)
  have el : ((strLen.getD si 0 : Nat) : Int) = (wl4 si : Int) := rfl
  refine e_J0_charAt_5068e si hs _ (s_J0_charAt_5068e_0 si hs _ (e_J0_isLatin1_aae02 si hs (s_J0_isLatin1_aae02_0 si hs ⟨fun q => absurd q one_ne, fun _ => ⟨ir01.2, ?_⟩⟩)))
  refine e_J1_charAt_3b067 si hs _ (s_J1_charAt_3b067_0 si hs _ (e_J0_checkIndex_df160 _ _ (s_J0_checkIndex_df160_0 _ _ (e_J3_checkIndex_8e157 _ _ (s_J3_checkIndex_8e157_0 _ _ ?_)))))
  rw [el]
  have irn : ir (n : Int) := ⟨by omega, by omega⟩
  have irl : ir (wl4 si : Int) := ⟨by omega, by omega⟩
  refine ⟨irn, fun z => absurd z (by omega), fun _ => ⟨⟨irn, irl⟩, fun _ => ⟨hi, hb.2.1, ?_⟩, fun z => absurd hi.2 z⟩⟩
  rw [hb.1]
  have hn2 : narrow .char (.int (Int32.ofInt (wc si n))) = .int (Int32.ofInt (wc si n)) := by have := hb.2.1; rw [hb.1] at this; exact this
  exact ⟨hn2, h⟩
/-- how far the word si goes -/
def wmE (T : Int → Int) (L : Int) (si : Nat) : Nat → Int → Int → Int
  | 0, _, a => a
  | n + 1, i, a => if nx T L a = wc si i then wmE T L si n (i + 1) (a + 1) else a
def wmF (T : Int → Int) (L : Int) (si : Nat) : Nat → Int → Int → Int
  | 0, _, _ => 1
  | n + 1, i, a => if nx T L a = wc si i then wmF T L si n (i + 1) (a + 1) else 0
theorem k_isWord {K : SK} {d : Nat} {c : ct} {Q : ct → Int → Prop} {h : Int} {T : Int → Int} {L : Int} {si : Nat} (hs : si < 4) (hR : RD c h T L) (ha : 0 ≤ c 3 3 ∧ c 3 3 ≤ 150) (hq : ∀ c', rdO c c' → c' 3 3 = wmE T L si (wl4 si) 0 (c 3 3) → c' 3 4 = c 3 4 → Q c' (wmF T L si (wl4 si) 0 (c 3 3))) : CI K (d + 5) mX4_isWord [(2, 3), (3, ((6 + si : Nat) : Int))] c Q := by
  have hl := wl_r hs
  have loop : ∀ (n : Nat) (i : Int) (c1 : ct), i = wl4 si - n → 0 ≤ i → rdO c c1 → c1 3 3 = c 3 3 + i → c1 3 4 = c 3 4 → wmE T L si n i (c1 3 3) = wmE T L si (wl4 si) 0 (c 3 3) → wmF T L si n i (c1 3 3) = wmF T L si (wl4 si) 0 (c 3 3) → WI K (d + 5) mX4_isWord 2 [(2, 3), (3, ((6 + si : Nat) : Int)), (0, i)] [] c1 Q := by
    intro n
    induction n with
    | zero =>
      intro i c1 hi i0 ho e1 e2 eE eF
      refine s_X4_isWord_2 si hs i (k_length hs ⟨⟨⟨by omega, by omega⟩, ⟨by omega, by omega⟩⟩, fun _ => ?_, fun z => absurd (by omega) z⟩)
      have q := hq c1 ho eE e2
      rw [← eF] at q
      exact q
    | succ n ih =>
      intro i c1 hi i0 ho e1 e2 eE eF
      have hb := (wc_b si hs i.toNat (by omega)).2.2
      rw [show ((i.toNat : Nat) : Int) = i by omega] at hb
      rw [wmE] at eE
      rw [wmF] at eF
      refine s_X4_isWord_2 si hs i (k_length hs ⟨⟨⟨by omega, by omega⟩, ⟨by omega, by omega⟩⟩, fun z => absurd z (by omega), fun _ => k_charAt hs ⟨i0, by omega⟩ ?_⟩)
      refine k_isSign (RD_o hR ho) (by omega) ⟨by omega, by omega⟩ (fun z => ⟨fun _ => ?_, fun q => absurd rfl q⟩) (fun c2 z o2 f1 f2 => ⟨fun q => absurd q one_ne, fun _ => ⟨ir01.2, ?_⟩⟩)
      · rw [if_neg z] at eE eF
        have q := hq c1 ho eE e2
        rw [← eF] at q
        exact q
      · rw [if_pos z, ← f1] at eE eF
        exact ih (i + 1) c2 (by omega) (by omega) (ho.trans o2) (by omega) (by omega) eE eF
  exact e_X4_isWord si hs (s_X4_isWord_0 si hs (loop (wl4 si) 0 c (by omega) (by decide) rdO.rf (by omega) rfl rfl rfl))
theorem k_clear {K : SK} {d : Nat} {c : ct} {Q : ct → Prop} {t : Int} (ht : isHou t) (h : ∀ c', (∀ k, k ≠ t → ∀ j, c' k j = c k j) → c' t 1 = 0 → c' t 4 = 0 → c' t 5 = 5 → c' t 6 = 6 → c' t 7 = 0 → Q c') : CV K (d + 1) mX2_clear [(2, t)] c Q := by
  refine e_X2_clear t ht (s_X2_clear_0 t ht (fun c1 e1 c2 e2 c3 e3 c4 e4 c5 e5 => ?_))
  subst e5 e4 e3 e2 e1
  refine h _ (fun k a j => by rw [up2_ne1 a, up2_ne1 a, up2_ne1 a, up2_ne1 a, up2_ne1 a]) ?_ ?_ ?_ ?_ ?_ <;> simp [up2]
theorem k_addStep {K : SK} {d : Nat} {c : ct} {Q : ct → Prop} {t x : Int} (ht : isHou t) (hn : 0 ≤ c t 1 ∧ c t 1 < 100) (h : ∀ c', (∀ k, k ≠ t → k ≠ t + 1 → ∀ j, c' k j = c k j) → (∀ j, j ≠ 1 → c' t j = c t j) → c' t 1 = c t 1 + 1 → (∀ j, c' (t + 1) j = if j = c t 1 then x else c (t + 1) j) → Q c') : CV K (d + 1) mX2_addStep [(2, t), (0, x)] c Q := by
  refine e_X2_addStep t ht x (s_X2_addStep_0 t ht x ⟨⟨by omega, by omega⟩, fun z => absurd z (by omega), fun _ => ⟨hn, fun c3 e3 c5 e5 => ?_⟩⟩)
  have n3 : ∀ k, k ≠ t + 1 → ∀ j, c3 k j = c k j := fun k a j => by subst e3; exact up2_ne1 a
  refine h c5 (fun k a b j => by subst e5; rw [up2_ne1 a]; exact n3 k b j) (fun j a => by subst e5; rw [up2_ne2 a]; exact n3 t (by omega) j) (by subst e5; rw [up2_self, n3 t (by omega)]) (fun j => ?_)
  subst e5
  rw [up2_ne1 (by omega)]
  subst e3
  simp only [up2, true_and]
theorem k_addWeight {K : SK} {d : Nat} {c : ct} {Q : ct → Prop} {t x : Int} (ht : isHou t) (hn : 0 ≤ c t 4 ∧ c t 4 < 10) (h : ∀ c', (∀ k, k ≠ t → k ≠ t + 2 → k ≠ t + 3 → ∀ j, c' k j = c k j) → (∀ j, j ≠ 4 → c' t j = c t j) → c' t 4 = c t 4 + 1 → (∀ j, c' (t + 2) j = if j = c t 4 then x else c (t + 2) j) → (∀ j, c' (t + 3) j = if j = c t 4 then c t 1 else c (t + 3) j) → Q c') : CV K (d + 1) mX2_addWeight [(2, t), (0, x)] c Q := by
  refine e_X2_addWeight t ht x (s_X2_addWeight_0 t ht x ⟨⟨by omega, by omega⟩, fun z => absurd z (by omega), fun _ => ⟨hn, fun c3 e3 => ?_⟩⟩)
  have n3 : ∀ k, k ≠ t + 2 → ∀ j, c3 k j = c k j := fun k a j => by subst e3; exact up2_ne1 a
  have r2 : ∀ j, c3 (t + 2) j = if j = c t 4 then x else c (t + 2) j := fun j => by subst e3; simp only [up2, true_and]
  clear e3
  rw [n3 t (by omega), n3 t (by omega)]
  refine ⟨hn, fun c5 e5 c7 e7 => ?_⟩
  have n5 : ∀ k, k ≠ t + 3 → ∀ j, c5 k j = c3 k j := fun k a j => by subst e5; exact up2_ne1 a
  have r3 : ∀ j, c5 (t + 3) j = if j = c t 4 then c t 1 else c (t + 3) j := fun j => by subst e5; simp only [up2, true_and]; rw [n3 (t + 3) (by omega)]
  clear e5
  have n7 : ∀ k, k ≠ t → ∀ j, c7 k j = c5 k j := fun k a j => by subst e7; exact up2_ne1 a
  refine h c7 (fun k a b e j => by rw [n7 k a, n5 k e, n3 k b]) (fun j a => by subst e7; rw [up2_ne2 a, n5 t (by omega), n3 t (by omega)]) (by subst e7; rw [up2_self, n5 t (by omega), n3 t (by omega)]) (fun j => by rw [n7 (t + 2) (by omega), n5 (t + 2) (by omega)]; exact r2 j) (fun j => by rw [n7 (t + 3) (by omega)]; exact r3 j)
