/-! CONTRACTS: small ones of the class -/
theorem k_X8_oneIf {K : SK} {d : Nat} {c : ct} {Q : ct → Int → Prop} (a0 : Int) (hr : ir a0) (h : Q c (if a0 = 0 then 0 else 1)) : CI K (d + 1) mX8_oneIf [(0, a0)] c Q := by
  refine e_X8_oneIf _ (s_X8_oneIf_0 _ ?_)
  grind
theorem k_X8_isSeat {K : SK} {d : Nat} {c : ct} {Q : ct → Int → Prop} (a0 : Int) (hr : ir a0) (h : Q c (if 0 ≤ a0 ∧ a0 < 6 then 1 else 0)) : CI K (d + 1) mX8_isSeat [(0, a0)] c Q := by
  refine e_X8_isSeat _ (s_X8_isSeat_0 _ ?_)
  grind
theorem k_X8_isGuest {K : SK} {d : Nat} {c : ct} {Q : ct → Int → Prop} (a0 : Int) (hr : ir a0) (hn : ir (c 24 10)) (h : Q c (if 0 ≤ a0 ∧ a0 < c 24 10 then 1 else 0)) : CI K (d + 1) mX8_isGuest [(2, 0), (0, a0)] c Q := by
  refine e_X8_isGuest _ (s_X8_isGuest_0 _ ?_)
  grind
/-- a table's ranges -/
def TR (c : ct) (t : Int) : Prop := (0 ≤ c t 10 ∧ c t 10 ≤ 6) ∧ (0 ≤ c t 11 ∧ c t 11 < 6) ∧ (0 ≤ c t 12 ∧ c t 12 ≤ 20000) ∧ isHou (c t 13) ∧ (∀ p, 0 ≤ p → p < 6 → (0 ≤ c (t + 1) p ∧ c (t + 1) p < 7) ∧ (0 ≤ c (t + 2) p ∧ c (t + 2) p ≤ 9) ∧ (0 ≤ c (t + 3) p ∧ c (t + 3) p < 6) ∧ (0 ≤ c (t + 4) p ∧ c (t + 4) p ≤ 20000) ∧ (c (t + 5) p = 0 ∨ c (t + 5) p = 1) ∧ (c (t + 6) p = 0 ∨ c (t + 6) p = 1) ∧ (-1 ≤ c (t + 8) p ∧ c (t + 8) p < 6)) ∧ (∀ i, 0 ≤ i → i < 24 → 0 ≤ c (t + 7) i ∧ c (t + 7) i ≤ 9) ∧ (∀ i, 0 ≤ i → i < 36 → -1000 ≤ c (t + 9) i ∧ c (t + 9) i ≤ 1000)
def nbA (c : ct) (t s : Int) : Int := if c (t + 8) s < 0 then -1 else if c (t + 6) (c (t + 8) s) = 0 then (if c (t + 1) (c (t + 8) s) = 4 then -1 else c (t + 8) s) else -1
theorem k_X6_neighbourAt {K : SK} {d : Nat} {c : ct} {Q : ct → Int → Prop} {t : Int} (ht : isTab t) (hT : TR c t) (s : Int) (hs : 0 ≤ s ∧ s < 6) (h : Q c (nbA c t s)) : CI K (d + 1) mX6_neighbourAt [(2, t), (0, s)] c Q := by
  refine e_X6_neighbourAt t ht _ (s_X6_neighbourAt_0 t ht _ ?_)
  obtain ⟨-, -, -, -, hp, -, -⟩ := hT
  have h1 := hp s hs.1 hs.2
  have h2 := hp (c (t + 8) s)
  unfold nbA at h
  grind [ir]
/-! sums over a stretch of numbers -/
def smR (f : Int → Int) : Nat → Int → Int
  | 0, _ => 0
  | n + 1, i => f i + smR f n (i + 1)
theorem smR_congr {f g : Int → Int} : ∀ (n : Nat) (i : Int), (∀ j, i ≤ j → j < i + n → f j = g j) → smR f n i = smR g n i
  | 0, _, _ => rfl
  | n + 1, i, h => by
    simp only [smR]
    rw [h i (by omega) (by omega), smR_congr n (i + 1) (fun j h1 h2 => h j (by omega) (by omega))]
theorem smR_bd {f : Int → Int} {B : Int} : ∀ (n : Nat) (i : Int), (∀ j, i ≤ j → j < i + n → -B ≤ f j ∧ f j ≤ B) → -(B * n) ≤ smR f n i ∧ smR f n i ≤ B * n
  | 0, _, _ => by simp [smR]
  | n + 1, i, h => by
    have h1 := h i (by omega) (by omega)
    have h2 := smR_bd (f := f) (B := B) n (i + 1) (fun j h1 h2 => h j (by omega) (by omega))
    simp only [smR]
    have e : B * ((n + 1 : Nat) : Int) = B * n + B := by rw [Int.natCast_add, Int.mul_add]; simp
    rw [e]
    omega
def sis1 (k : Int) : Int := if k = 3 ∨ k = 6 then 1 else 0
def aft (s : Int) : Int := if s = 5 then 0 else s + 1
def ahd (s : Int) : Int := if s = 0 then 5 else s - 1
theorem six {s : Int} (h : 0 ≤ s ∧ s < 6) : s = 0 ∨ s = 1 ∨ s = 2 ∨ s = 3 ∨ s = 4 ∨ s = 5 := by omega
theorem seven {s : Int} (h : 0 ≤ s ∧ s < 7) : s = 0 ∨ s = 1 ∨ s = 2 ∨ s = 3 ∨ s = 4 ∨ s = 5 ∨ s = 6 := by omega
theorem ro1 {K : SK} {s : Int} (h : 0 ≤ s ∧ s < 6) : roC K 1 s.toNat = aft s := by rcases six h with rfl | rfl | rfl | rfl | rfl | rfl <;> rfl
theorem ro2 {K : SK} {s : Int} (h : 0 ≤ s ∧ s < 6) : roC K 2 s.toNat = ahd s := by rcases six h with rfl | rfl | rfl | rfl | rfl | rfl <;> rfl
theorem ro3 {K : SK} {s : Int} (h : 0 ≤ s ∧ s < 7) : roC K 3 s.toNat = sis1 s := by rcases seven h with rfl | rfl | rfl | rfl | rfl | rfl | rfl <;> rfl
theorem aft_r {s : Int} (h : 0 ≤ s ∧ s < 6) : 0 ≤ aft s ∧ aft s < 6 := by unfold aft; split <;> omega
theorem ahd_r {s : Int} (h : 0 ≤ s ∧ s < 6) : 0 ≤ ahd s ∧ ahd s < 6 := by unfold ahd; split <;> omega
def pw (p : Int) : Int := if p = 0 then 1 else if p = 1 then 2 else if p = 2 then 4 else if p = 3 then 8 else if p = 4 then 16 else 32
theorem or_shl {a r p : Int} (hp : 0 ≤ p ∧ p < 6) (ha : 0 ≤ a ∧ a < pw p) (hr : r = 0 ∨ r = 1) : bOr a (bShl r p) = a + r * pw p := by
  have key : ∀ p : Nat, p < 6 → ∀ a : Nat, a < 32 → (a : Int) < pw p → bOr a (bShl 0 p) = (a : Int) + 0 * pw p ∧ bOr a (bShl 1 p) = (a : Int) + 1 * pw p := by decide +kernel
  have h32 : pw p ≤ 32 := by rcases six hp with rfl | rfl | rfl | rfl | rfl | rfl <;> decide
  obtain ⟨p', rfl⟩ : ∃ z : Nat, p = z := ⟨p.toNat, by omega⟩
  obtain ⟨a', rfl⟩ : ∃ z : Nat, a = z := ⟨a.toNat, by omega⟩
  rcases hr with rfl | rfl
  · exact (key p' (by omega) a' (by omega) ha.2).1
  · exact (key p' (by omega) a' (by omega) ha.2).2
theorem k_X6_freeSeat {K : SK} {d : Nat} {c : ct} {Q : ct → Int → Prop} {t : Int} (ht : isTab t) (hT : TR c t) (h : ∀ s, (s = -1 ∧ ∀ q, 0 ≤ q → q < 6 → 0 ≤ c (t + 8) q) ∨ (0 ≤ s ∧ s < 6 ∧ c (t + 8) s < 0 ∧ ∀ q, 0 ≤ q → q < s → 0 ≤ c (t + 8) q) → Q c s) : CI K (d + 1) mX6_freeSeat [(2, t)] c Q := by
  refine e_X6_freeSeat t ht (s_X6_freeSeat_0 t ht ?_)
  have loop : ∀ (n : Nat) (i : Int), i = 6 - n → 0 ≤ i → (∀ q, 0 ≤ q → q < i → 0 ≤ c (t + 8) q) → WI K (d + 1) mX6_freeSeat 2 [(2, t), (0, i)] [] c Q := by
    intro n
    induction n with
    | zero =>
      intro i hi h0 hq
      refine s_X6_freeSeat_2 t ht _ ?_
      grind [ir]
    | succ n ih =>
      intro i hi h0 hq
      refine s_X6_freeSeat_2 t ht _ ?_
      have h1 := (hT.2.2.2.2.1 i h0 (by omega)).2.2.2.2.2.2
      refine ⟨⟨by omega, by omega⟩, fun z => absurd z (by omega), fun _ => ⟨⟨h0, by omega⟩, ⟨by omega, by omega⟩, fun z => ?_, fun z => ?_⟩⟩
      · refine ih (i + 1) (by omega) (by omega) (fun q g1 g2 => ?_)
        by_cases e : q = i
        · subst e; exact z
        · exact hq q g1 (by omega)
      · exact h i (Or.inr ⟨h0, by omega, by omega, hq⟩)
  exact loop 6 0 (by omega) (by omega) (fun q g1 g2 => absurd g1 (by omega))
def plcC (c : ct) (t g s : Int) : ct := up2 (up2 c (t + 3) g s) (t + 8) s g
theorem k_X6_place {K : SK} {d : Nat} {c : ct} {Q : ct → Prop} {t g s : Int} (ht : isTab t) (hg : 0 ≤ g ∧ g < 6) (hs : 0 ≤ s ∧ s < 6) (h : Q (plcC c t g s)) : CV K (d + 1) mX6_place [(2, t), (0, g), (0, s)] c Q := by
  refine e_X6_place t ht _ _ (s_X6_place_0 t ht _ _ ?_)
  exact ⟨hg, fun c1 e1 => ⟨hs, fun c3 e3 => by subst e1; subst e3; exact h⟩⟩
def movC (c : ct) (t g s : Int) : ct :=
  if c (t + 8) s < 0 then plcC (up2 c (t + 8) (c (t + 3) g) (-1)) t g s
  else plcC (plcC (up2 c (t + 8) (c (t + 3) g) (-1)) t (c (t + 8) s) (c (t + 3) g)) t g s
theorem k_X6_moveTo {K : SK} {d : Nat} {c : ct} {Q : ct → Prop} {t g s : Int} (ht : isTab t) (hT : TR c t) (hg : 0 ≤ g ∧ g < 6) (hs : 0 ≤ s ∧ s < 6) (h : Q (movC c t g s)) : CV K (d + 2) mX6_moveTo [(2, t), (0, g), (0, s)] c Q := by
  refine e_X6_moveTo t ht _ _ (s_X6_moveTo_0 t ht _ _ ?_)
  have h1 := (hT.2.2.2.2.1 g hg.1 hg.2).2.2.1
  have h2 := (hT.2.2.2.2.1 s hs.1 hs.2).2.2.2.2.2.2
  unfold movC at h
  refine ⟨hg, hs, h1, fun c3 e3 => ⟨⟨by omega, by omega⟩, fun z => ?_, fun z => ?_⟩⟩
  · subst e3
    rw [if_pos z] at h
    exact k_X6_place ht hg hs h
  · subst e3
    rw [if_neg z] at h
    exact k_X6_place ht ⟨by omega, h2.2⟩ h1 (k_X6_place ht hg hs h)
theorem k_X6_liking {K : SK} {d : Nat} {c : ct} {Q : ct → Int → Prop} {t p q : Int} (ht : isTab t) (hp : 0 ≤ p ∧ p < 6) (hq : 0 ≤ q ∧ q < 6) (h : Q c (c (t + 9) (p * 6 + q))) : CI K (d + 1) mX6_liking [(2, t), (0, p), (0, q)] c Q :=
  e_X6_liking t ht _ _ (s_X6_liking_0 t ht _ _ ⟨⟨by omega, by omega⟩, h⟩)
theorem nbA_r {c : ct} {t s : Int} (hT : TR c t) (hs : 0 ≤ s ∧ s < 6) : -1 ≤ nbA c t s ∧ nbA c t s < 6 := by
  have h1 := (hT.2.2.2.2.1 s hs.1 hs.2).2.2.2.2.2.2
  unfold nbA
  grind
def bit1 (w : Int) : Int := if w < 0 then 0 else pw w
theorem k_X6_neighbours {K : SK} {d : Nat} {c : ct} {Q : ct → Int → Prop} {t g : Int} (ht : isTab t) (hT : TR c t) (hg : 0 ≤ g ∧ g < 6) (h : Q c (bOr (bit1 (nbA c t (aft (c (t + 3) g)))) (bit1 (nbA c t (ahd (c (t + 3) g)))))) : CI K (d + 2) mX6_neighbours [(2, t), (0, g)] c Q := by
  refine e_X6_neighbours t ht _ (s_X6_neighbours_0 t ht _ ?_)
  have h1 := (hT.2.2.2.2.1 g hg.1 hg.2).2.2.1
  have r1 := nbA_r hT (aft_r h1)
  have r2 := nbA_r hT (ahd_r h1)
  have shl : ∀ p : Int, 0 ≤ p ∧ p < 6 → bShl 1 p = pw p := by
    intro p hp
    rcases six hp with rfl | rfl | rfl | rfl | rfl | rfl <;> decide
  refine ⟨hg, h1, ?_⟩
  rw [ro1 h1]
  refine k_X6_neighbourAt ht hT _ (aft_r h1) ⟨hg, h1, ?_⟩
  rw [ro2 h1]
  refine k_X6_neighbourAt ht hT _ (ahd_r h1) ?_
  unfold bit1 at h
  refine ⟨⟨by omega, by omega⟩, fun z1 => ⟨⟨by omega, by omega⟩, fun z2 => ?_, fun z2 => ?_⟩, fun z1 => ⟨⟨by omega, by omega⟩, fun z2 => ?_, fun z2 => ?_⟩⟩
  · rw [if_neg (by omega), if_neg (by omega), ← shl _ ⟨by omega, by omega⟩, ← shl _ ⟨by omega, by omega⟩] at h; exact h
  · rw [if_neg (by omega), if_pos (by omega), ← shl _ ⟨by omega, by omega⟩] at h; exact h
  · rw [if_pos (by omega), if_neg (by omega), ← shl _ ⟨by omega, by omega⟩] at h; exact h
  · rw [if_pos (by omega), if_pos (by omega)] at h; exact h
def wrmA (c : ct) (t g s : Int) : Int := if nbA c t s < 0 then 0 else c (t + 9) (g * 6 + nbA c t s) - sis1 (c (t + 1) g) * sis1 (c (t + 1) (nbA c t s)) * c (t + 2) g
theorem sis_01 (k : Int) : sis1 k = 0 ∨ sis1 k = 1 := by unfold sis1; split <;> simp
theorem wrmA_r {c : ct} {t g s : Int} (hT : TR c t) (hg : 0 ≤ g ∧ g < 6) (hs : 0 ≤ s ∧ s < 6) : -1010 ≤ wrmA c t g s ∧ wrmA c t g s ≤ 1010 := by
  have r1 := nbA_r hT hs
  have h1 := (hT.2.2.2.2.1 g hg.1 hg.2).2.1
  have h2 := hT.2.2.2.2.2.2 (g * 6 + nbA c t s)
  unfold wrmA
  split
  · omega
  · have h3 := h2 (by omega) (by omega)
    rcases sis_01 (c (t + 1) g) with e1 | e1 <;> rcases sis_01 (c (t + 1) (nbA c t s)) with e2 | e2 <;> rw [e1, e2] <;> omega
theorem k_X6_warmth {K : SK} {d : Nat} {c : ct} {Q : ct → Int → Prop} {t g s : Int} (ht : isTab t) (hT : TR c t) (hg : 0 ≤ g ∧ g < 6) (hs : 0 ≤ s ∧ s < 6) (h : Q c (wrmA c t g s)) : CI K (d + 2) mX6_warmth [(2, t), (0, g), (0, s)] c Q := by
  refine e_X6_warmth t ht _ _ (s_X6_warmth_0 t ht _ _ ?_)
  have r1 := nbA_r hT hs
  refine k_X6_neighbourAt ht hT _ hs ?_
  unfold wrmA at h
  refine ⟨⟨by omega, by omega⟩, fun z => ?_, fun z => ?_⟩
  · have h1 := (hT.2.2.2.2.1 g hg.1 hg.2).1
    have h2 := (hT.2.2.2.2.1 (nbA c t s) z r1.2).1
    refine ⟨hg, h1, ⟨z, r1.2⟩, h2, hg, ⟨by omega, by omega⟩, ?_⟩
    rw [ro3 h1, ro3 h2]
    rw [if_neg (by omega)] at h
    exact h
  · rw [if_pos (by omega)] at h
    exact h
def sumA (c : ct) (t g : Int) : Int := wrmA c t g (aft (c (t + 3) g)) + wrmA c t g (ahd (c (t + 3) g))
def fondA (c : ct) (t g : Int) : Int :=
  if ¬ c (t + 6) g = 0 then 0 else if c (t + 1) g = 5 ∧ ¬ Int.tmod (c t 12) 2 = 0 then 0 else if c (t + 1) g = 4 then c (t + 2) g
  else if c (t + 1) g = 1 then Int.tdiv (sumA c t g) 2
  else if c (t + 1) g = 2 ∨ c (t + 1) g = 5 then (if c (t + 3) g = 0 then sumA c t g + c (c t 13) 6 else sumA c t g)
  else if c (t + 1) g = 6 then sumA c t g + c (t + 7) (g * 4 + Int.tmod (c (t + 3) g) 4) else sumA c t g
theorem sumA_r {c : ct} {t g : Int} (hT : TR c t) (hg : 0 ≤ g ∧ g < 6) : -2020 ≤ sumA c t g ∧ sumA c t g ≤ 2020 := by
  have h1 := (hT.2.2.2.2.1 g hg.1 hg.2).2.2.1
  have := wrmA_r hT hg (aft_r h1)
  have := wrmA_r hT hg (ahd_r h1)
  unfold sumA
  omega
theorem tm_r {a b : Int} (ha : 0 ≤ a) (hb : 0 < b) : 0 ≤ Int.tmod a b ∧ Int.tmod a b < b := by
  rw [Int.tmod_eq_emod_of_nonneg ha]
  exact ⟨Int.emod_nonneg _ (by omega), Int.emod_lt_of_pos _ hb⟩
theorem td2_r {a : Int} {B : Int} (h : -B ≤ a ∧ a ≤ B) : -B ≤ Int.tdiv a 2 ∧ Int.tdiv a 2 ≤ B := by
  rcases Int.le_total 0 a with h0 | h0
  · rw [Int.tdiv_eq_ediv_of_nonneg h0]; omega
  · have e : Int.tdiv a 2 = -(Int.tdiv (-a) 2) := by rw [Int.neg_tdiv, Int.neg_neg]
    rw [e, Int.tdiv_eq_ediv_of_nonneg (by omega)]; omega
/-- the house that holds has small numbers -/
def HT (c : ct) (t : Int) : Prop := (0 ≤ c (c t 13) 5 ∧ c (c t 13) 5 ≤ 99) ∧ (0 ≤ c (c t 13) 6 ∧ c (c t 13) 6 ≤ 99)
theorem fondA_r {c : ct} {t g : Int} (hT : TR c t) (hH : HT c t) (hg : 0 ≤ g ∧ g < 6) : -2200 ≤ fondA c t g ∧ fondA c t g ≤ 2200 := by
  have h1 := sumA_r hT hg
  have h2 := hT.2.2.2.2.1 g hg.1 hg.2
  have h3 := td2_r h1
  have h4 := tm_r (b := 4) h2.2.2.1.1 (by omega)
  have h5 := hT.2.2.2.2.2.1 (g * 4 + Int.tmod (c (t + 3) g) 4) (by omega) (by omega)
  unfold HT at hH
  unfold fondA
  repeat' split
  all_goals omega
theorem k_X6_fondOf {K : SK} {d : Nat} {c : ct} {Q : ct → Int → Prop} {t g : Int} (ht : isTab t) (hT : TR c t) (hg : 0 ≤ g ∧ g < 6) (h : Q c (fondA c t g)) : CI K (d + 3) mX6_fondOf [(2, t), (0, g)] c Q := by
  have h2 := hT.2.2.2.2.1 g hg.1 hg.2
  have h1 := sumA_r hT hg
  have hseat := h2.2.2.1
  have hyr := hT.2.2.1
  have h4 := tm_r (b := 4) hseat.1 (by omega)
  have hy := tm_r (a := c t 12) (b := 2) hT.2.2.1.1 (by omega)
  have hsum : sumA c t g = wrmA c t g (aft (c (t + 3) g)) + wrmA c t g (ahd (c (t + 3) g)) := rfl
  have hho := hT.2.2.2.1
  have seg : (c (t + 6) g = 0) → ¬ (c (t + 1) g = 5 ∧ ¬ Int.tmod (c t 12) 2 = 0) → WI K (d + 3) mX6_fondOf 32 [(2, t), (0, g), (0, c (t + 1) g), (9, 0), (9, 0)] [] c Q := by
    intro hgo hla
    refine s_X6_fondOf_32 t ht _ _ ?_
    unfold fondA at h
    rw [if_neg (by omega), if_neg hla] at h
    refine ⟨fun z => ⟨hg, ?_⟩, fun z => ⟨⟨by omega, by omega⟩, hg, hseat, ?_⟩⟩
    · rw [if_pos z] at h; exact h
    rw [if_neg z] at h
    rw [ro1 hseat]
    refine k_X6_warmth ht hT hg (aft_r hseat) ⟨hseat, ?_⟩
    rw [ro2 hseat]
    refine k_X6_warmth ht hT hg (ahd_r hseat) ?_
    rw [← hsum]
    refine ⟨⟨by omega, by omega⟩, ?_, ?_, ?_, ?_, ?_, ?_, ?_⟩
    · intro e; rw [if_pos e] at h; exact ⟨⟨by omega, by omega⟩, h⟩
    · intro e; rw [if_neg (by omega), if_pos (by omega)] at h
      exact ⟨fun z2 => ⟨hho, by rw [if_pos z2] at h; exact h⟩, fun z2 => ⟨⟨by omega, by omega⟩, by rw [if_neg z2] at h; exact h⟩⟩
    · intro e; rw [if_neg (by omega), if_neg (by omega), if_neg (by omega)] at h; exact h
    · intro e; exact absurd e z
    · intro e; rw [if_neg (by omega), if_pos (by omega)] at h
      exact ⟨fun z2 => ⟨hho, by rw [if_pos z2] at h; exact h⟩, fun z2 => ⟨⟨by omega, by omega⟩, by rw [if_neg z2] at h; exact h⟩⟩
    · intro e; rw [if_neg (by omega), if_neg (by omega), if_pos (by omega)] at h
      exact ⟨⟨by omega, by omega⟩, ⟨by omega, by omega⟩, h⟩
    · intro e; rw [if_neg (by omega), if_neg (by omega), if_neg (by omega)] at h; exact h
  refine e_X6_fondOf t ht _ (s_X6_fondOf_0 t ht _ ?_)
  refine ⟨hg, hg, fun z => ⟨fun z2 => ⟨⟨by omega, by omega⟩, fun z3 => seg z (fun q => q.2 z3), fun z3 => ⟨⟨by omega, by omega⟩, ?_⟩⟩, fun z2 => ⟨⟨by omega, by omega⟩, seg z (fun q => z2 q.1)⟩⟩, fun z => ⟨⟨by omega, by omega⟩, ?_⟩⟩
  · unfold fondA at h; rw [if_neg (by omega), if_pos ⟨z2, z3⟩] at h; exact h
  · unfold fondA at h; rw [if_pos z] at h; exact h
theorem k_X6_fondOfAll {K : SK} {d : Nat} {c : ct} {Q : ct → Int → Prop} {t : Int} (ht : isTab t) (hT : TR c t) (h : Q c (smR (fondA c t) (c t 10).toNat 0)) : CI K (d + 4) mX6_fondOfAll [(2, t)] c Q := by
  have hn := hT.1
  have loop : ∀ (n : Nat) (i a : Int), i = c t 10 - n → 0 ≤ i → Q c (a + smR (fondA c t) n i) → WI K (d + 4) mX6_fondOfAll 4 [(2, t), (0, a), (0, i)] [] c Q := by
    intro n
    induction n with
    | zero =>
      intro i a hi h0 hq
      refine s_X6_fondOfAll_4 t ht _ _ ⟨⟨⟨by omega, by omega⟩, ⟨by omega, by omega⟩⟩, fun _ => ?_, fun z => absurd (by omega) z⟩
      simpa [smR] using hq
    | succ n ih =>
      intro i a hi h0 hq
      refine s_X6_fondOfAll_4 t ht _ _ ⟨⟨⟨by omega, by omega⟩, ⟨by omega, by omega⟩⟩, fun z => absurd z (by omega), fun _ => ?_⟩
      refine k_X6_fondOf ht hT ⟨h0, by omega⟩ (ih _ _ (by omega) (by omega) ?_)
      rw [smR, ← Int.add_assoc] at hq
      exact hq
  exact e_X6_fondOfAll t ht (s_X6_fondOfAll_0 t ht (loop (c t 10).toNat 0 0 (by omega) (by omega) (by rw [Int.zero_add]; exact h)))
/-- whether the neighbours on a seat and the next one clash -/
def clA (c : ct) (t s : Int) : Int := if nbA c t s < 0 ∨ nbA c t (aft s) < 0 then 0 else if c (t + 9) (nbA c t s * 6 + nbA c t (aft s)) < 0 ∨ c (t + 9) (nbA c t (aft s) * 6 + nbA c t s) < 0 then 1 else 0
theorem k_X6_clashes {K : SK} {d : Nat} {c : ct} {Q : ct → Int → Prop} {t : Int} (ht : isTab t) (hT : TR c t) (h : Q c (smR (clA c t) 6 0)) : CI K (d + 3) mX6_clashes [(2, t)] c Q := by
  have loop : ∀ (n : Nat) (i a : Int), i = 6 - n → 0 ≤ i → Q c (a + smR (clA c t) n i) → WI K (d + 3) mX6_clashes 4 [(2, t), (0, a), (0, i), (9, 0), (9, 0)] [] c Q := by
    intro n
    induction n with
    | zero =>
      intro i a hi h0 hq
      refine s_X6_clashes_4 t ht _ _ ⟨⟨by omega, by omega⟩, fun _ => ?_, fun z => absurd (by omega) z⟩
      simpa [smR] using hq
    | succ n ih =>
      intro i a hi h0 hq
      have hs : 0 ≤ i ∧ i < 6 := ⟨h0, by omega⟩
      have r1 := nbA_r hT hs
      have r2 := nbA_r hT (aft_r hs)
      rw [smR, ← Int.add_assoc] at hq
      refine s_X6_clashes_4 t ht _ _ ⟨⟨by omega, by omega⟩, fun z => absurd z (by omega), fun _ => ?_⟩
      refine k_X6_neighbourAt ht hT _ hs ⟨hs, ?_⟩
      rw [ro1 hs]
      refine k_X6_neighbourAt ht hT _ (aft_r hs) ?_
      refine ⟨⟨by omega, by omega⟩, fun z => ih _ _ (by omega) (by omega) ?_, fun z => ⟨⟨by omega, by omega⟩, fun z2 => ih _ _ (by omega) (by omega) ?_, fun z2 => ?_⟩⟩
      · rw [show clA c t i = 0 from by unfold clA; rw [if_pos (Or.inl z)], Int.add_zero] at hq; exact hq
      · rw [show clA c t i = 0 from by unfold clA; rw [if_pos (Or.inr z2)], Int.add_zero] at hq; exact hq
      have b1 := hT.2.2.2.2.2.2 (nbA c t i * 6 + nbA c t (aft i)) (by omega) (by omega)
      have b2 := hT.2.2.2.2.2.2 (nbA c t (aft i) * 6 + nbA c t i) (by omega) (by omega)
      have hne : ¬ (nbA c t i < 0 ∨ nbA c t (aft i) < 0) := by omega
      refine k_X6_liking ht ⟨by omega, r1.2⟩ ⟨by omega, r2.2⟩ ⟨⟨by omega, by omega⟩, fun z3 => ih _ _ (by omega) (by omega) ?_, fun z3 => ?_⟩
      · rw [show clA c t i = 1 from by unfold clA; rw [if_neg hne, if_pos (Or.inl z3)]] at hq; exact hq
      refine k_X6_liking ht ⟨by omega, r2.2⟩ ⟨by omega, r1.2⟩ ⟨⟨by omega, by omega⟩, fun z4 => ih _ _ (by omega) (by omega) ?_, fun z4 => ih _ _ (by omega) (by omega) ?_⟩
      · rw [show clA c t i = 0 from by unfold clA; rw [if_neg hne, if_neg (by omega)], Int.add_zero] at hq; exact hq
      · rw [show clA c t i = 1 from by unfold clA; rw [if_neg hne, if_pos (Or.inr (by omega))]] at hq; exact hq
  exact e_X6_clashes t ht (s_X6_clashes_0 t ht (loop 6 0 0 (by omega) (by omega) (by rw [Int.zero_add]; exact h)))
def mskA (c : ct) (t p : Int) : Int := c (t + 5) p * pw p
theorem pw_s {i : Int} (h : 0 ≤ i ∧ i < 5) : pw (i + 1) = 2 * pw i := by
  have : i = 0 ∨ i = 1 ∨ i = 2 ∨ i = 3 ∨ i = 4 := by omega
  rcases this with rfl | rfl | rfl | rfl | rfl <;> decide
theorem pw_p (i : Int) : 1 ≤ pw i ∧ pw i ≤ 32 := by unfold pw; repeat' split
                                                    all_goals omega
theorem k_X6_emptyCups {K : SK} {d : Nat} {c : ct} {Q : ct → Int → Prop} {t : Int} (ht : isTab t) (hT : TR c t) (h : Q c (smR (mskA c t) (c t 10).toNat 0)) : CI K (d + 2) mX6_emptyCups [(2, t)] c Q := by
  have hn := hT.1
  have loop : ∀ (n : Nat) (i a : Int), i = c t 10 - n → 0 ≤ i → (i < 6 → 0 ≤ a ∧ a < pw i) → Q c (a + smR (mskA c t) n i) → WI K (d + 2) mX6_emptyCups 4 [(2, t), (0, a), (0, i)] [] c Q := by
    intro n
    induction n with
    | zero =>
      intro i a hi h0 ha hq
      refine s_X6_emptyCups_4 t ht _ _ ⟨⟨⟨by omega, by omega⟩, ⟨by omega, by omega⟩⟩, fun _ => ?_, fun z => absurd (by omega) z⟩
      simpa [smR] using hq
    | succ n ih =>
      intro i a hi h0 ha hq
      have hs : 0 ≤ i ∧ i < 6 := ⟨h0, by omega⟩
      have he := (hT.2.2.2.2.1 i h0 hs.2).2.2.2.2.1
      have ha' := ha hs.2
      rw [smR, ← Int.add_assoc] at hq
      refine s_X6_emptyCups_4 t ht _ _ ⟨⟨⟨by omega, by omega⟩, ⟨by omega, by omega⟩⟩, fun z => absurd z (by omega), fun _ => ⟨hs, ?_⟩⟩
      have e1 : (if c (t + 5) i = 0 then (0 : Int) else 1) = c (t + 5) i := by rcases he with e | e <;> rw [e] <;> simp
      refine k_X8_oneIf _ (by rcases he with e | e <;> rw [e] <;> exact ⟨by omega, by omega⟩) ?_
      rw [e1, or_shl hs ha' he]
      refine ih _ _ (by omega) (by omega) (fun z => ?_) hq
      rw [pw_s ⟨h0, by omega⟩]
      rcases he with e | e <;> rw [e] <;> omega
  exact e_X6_emptyCups t ht (s_X6_emptyCups_0 t ht (loop (c t 10).toNat 0 0 (by omega) (by omega) (fun _ => ⟨by omega, by decide⟩) (by rw [Int.zero_add]; exact h)))
theorem k_X6_usedOfAll {K : SK} {d : Nat} {c : ct} {Q : ct → Int → Prop} {t : Int} (ht : isTab t) (hn : 0 ≤ c t 10 ∧ c t 10 ≤ 6) (h : Q c (smR (c (t + 4)) (c t 10).toNat 0)) : CI K (d + 1) mX6_usedOfAll [(2, t)] c Q := by
  have loop : ∀ (n : Nat) (i a : Int), i = c t 10 - n → 0 ≤ i → Q c (a + smR (c (t + 4)) n i) → WI K (d + 1) mX6_usedOfAll 4 [(2, t), (0, a), (0, i)] [] c Q := by
    intro n
    induction n with
    | zero =>
      intro i a hi h0 hq
      refine s_X6_usedOfAll_4 t ht _ _ ⟨⟨⟨by omega, by omega⟩, ⟨by omega, by omega⟩⟩, fun _ => ?_, fun z => absurd (by omega) z⟩
      simpa [smR] using hq
    | succ n ih =>
      intro i a hi h0 hq
      refine s_X6_usedOfAll_4 t ht _ _ ⟨⟨⟨by omega, by omega⟩, ⟨by omega, by omega⟩⟩, fun z => absurd z (by omega), fun _ => ⟨⟨h0, by omega⟩, ih _ _ (by omega) (by omega) ?_⟩⟩
      rw [smR, ← Int.add_assoc] at hq
      exact hq
  exact e_X6_usedOfAll t ht (s_X6_usedOfAll_0 t ht (loop (c t 10).toNat 0 0 (by omega) (by omega) (by rw [Int.zero_add]; exact h)))
def pourC (c : ct) (t s : Int) : ct := if c (t + 8) s < 0 then up2 c t 11 s else up2 (up2 c t 11 s) (t + 5) (c (t + 8) s) 0
theorem k_X6_pourAt {K : SK} {d : Nat} {c : ct} {Q : ct → Prop} {t s : Int} (ht : isTab t) (hT : TR c t) (hs : 0 ≤ s ∧ s < 6) (h : Q (pourC c t s)) : CV K (d + 1) mX6_pourAt [(2, t), (0, s)] c Q := by
  have h2 := (hT.2.2.2.2.1 s hs.1 hs.2).2.2.2.2.2.2
  refine e_X6_pourAt t ht _ (s_X6_pourAt_0 t ht _ (fun c1 e1 => ?_))
  have e2 : c1 (t + 8) s = c (t + 8) s := by subst e1; simp only [up2]; rw [if_neg (by omega)]
  rw [e2]
  unfold pourC at h
  refine ⟨hs, ⟨by omega, by omega⟩, fun z => ?_, fun z => ⟨hs, ⟨by omega, h2.2⟩, fun c6 e6 => ?_⟩⟩
  · rw [if_pos z] at h; subst e1; exact h
  · rw [if_neg z] at h; subst e6; subst e1; exact h
/-- how many bits -/
def cnt6 (m : Int) : Int := m % 2 + m / 2 % 2 + m / 4 % 2 + m / 8 % 2 + m / 16 % 2 + m / 32 % 2
theorem k_bitCount {K : SK} {d : Nat} {c : ct} {Q : ct → Int → Prop} {a : Int} (ha : 0 ≤ a ∧ a < 64) (h : Q c (cnt6 a)) : CI K (d + 1) mJ6_bitCount_0f7a4 [(0, a)] c Q := by
  refine e_J6_bitCount_0f7a4 _ (s_J6_bitCount_0f7a4_0 _ ?_)
  have key : ∀ a0 : Nat, a0 < 64 → (bAnd (((bAnd (((bAnd ((a0 : Int) - (bAnd (bUshr a0 1) 1431655765)) 858993459) + (bAnd (bUshr (a0 - (bAnd (bUshr a0 1) 1431655765)) 2) 858993459)) + (bUshr ((bAnd (a0 - (bAnd (bUshr a0 1) 1431655765)) 858993459) + (bAnd (bUshr (a0 - (bAnd (bUshr a0 1) 1431655765)) 2) 858993459)) 4)) 252645135) + (bUshr (bAnd (((bAnd (a0 - (bAnd (bUshr a0 1) 1431655765)) 858993459) + (bAnd (bUshr (a0 - (bAnd (bUshr a0 1) 1431655765)) 2) 858993459)) + (bUshr ((bAnd (a0 - (bAnd (bUshr a0 1) 1431655765)) 858993459) + (bAnd (bUshr (a0 - (bAnd (bUshr a0 1) 1431655765)) 2) 858993459)) 4)) 252645135) 8)) + (bUshr ((bAnd (((bAnd (a0 - (bAnd (bUshr a0 1) 1431655765)) 858993459) + (bAnd (bUshr (a0 - (bAnd (bUshr a0 1) 1431655765)) 2) 858993459)) + (bUshr ((bAnd (a0 - (bAnd (bUshr a0 1) 1431655765)) 858993459) + (bAnd (bUshr (a0 - (bAnd (bUshr a0 1) 1431655765)) 2) 858993459)) 4)) 252645135) + (bUshr (bAnd (((bAnd (a0 - (bAnd (bUshr a0 1) 1431655765)) 858993459) + (bAnd (bUshr (a0 - (bAnd (bUshr a0 1) 1431655765)) 2) 858993459)) + (bUshr ((bAnd (a0 - (bAnd (bUshr a0 1) 1431655765)) 858993459) + (bAnd (bUshr (a0 - (bAnd (bUshr a0 1) 1431655765)) 2) 858993459)) 4)) 252645135) 8)) 16)) 63) = cnt6 (a0 : Int) := by decide +kernel
  obtain ⟨a', rfl⟩ : ∃ z : Nat, a = z := ⟨a.toNat, by omega⟩
  rw [key a' (by omega)]
  exact h
