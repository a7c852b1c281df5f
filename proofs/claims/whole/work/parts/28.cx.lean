/-! CONTRACTS: the way of the pot; rows of three -/
theorem onR_r {f : Int → Int} : ∀ (n : Nat) (a i : Int), 1 ≤ i → i + n = 6 → 0 ≤ a ∧ a ≤ 100 → 0 ≤ onR f n a i ∧ onR f n a i ≤ 100 := by
  intro n
  induction n with
  | zero => intro a i _ _ ha; exact ha
  | succ n ih =>
    intro a i h1 h2 ha
    have hb := fbR_r (f := f) (5 - i).toNat (i + 1) (by omega) (by omega)
    rw [onR]
    refine ih _ (i + 1) (by omega) (by omega) ?_
    repeat' split
    all_goals omega
theorem onF_r {f : Int → Int} : 0 ≤ onF f ∧ onF f ≤ 100 := by
  have := onR_r (f := f) 5 0 1 (by decide) (by decide) ⟨by decide, by decide⟩
  unfold onF
  split
  · decide
  · exact this
theorem baR_r {f : Int → Int} : ∀ (n : Nat) (a i : Int), 1 ≤ i → i + n = 6 → 0 ≤ a ∧ a ≤ 100 → 0 ≤ baR f n a i ∧ baR f n a i ≤ 100 := by
  intro n
  induction n with
  | zero => intro a i _ _ ha; exact ha
  | succ n ih =>
    intro a i h1 h2 ha
    have hb := fbR_r (f := f) (5 - i).toNat (i + 1) (by omega) (by omega)
    rw [baR]
    refine ih _ (i + 1) (by omega) (by omega) ?_
    show 0 ≤ (if fbR f (5 - i).toNat (i + 1) ≤ 0 then a else if fbR f (5 - i).toNat (i + 1) + fbR f (5 - i).toNat (i + 1) + i < a then fbR f (5 - i).toNat (i + 1) + fbR f (5 - i).toNat (i + 1) + i else a) ∧ _ ≤ (100 : Int)
    repeat' split
    all_goals omega
theorem baF_r {f : Int → Int} : 0 ≤ baF f ∧ baF f ≤ 100 := by
  have hb := fbR_r (f := f) 5 1 (by decide) (by decide)
  exact baR_r 5 _ 1 (by decide) (by decide) ⟨hb.1, Int.le_trans hb.2 (by decide)⟩
theorem k_X6_round {K : SK} {d : Nat} {c : ct} {Q : ct → Int → Prop} {t : Int} (ht : isTab t) (hT : TR c t) (h : Q c (roF (cuA c t))) : CI K (d + 3) mX6_round [(2, t)] c Q := by
  have a := onF_r (f := cuA c t)
  have b := baF_r (f := cuA c t)
  exact e_X6_round t ht (s_X6_round_0 t ht (k_X6_stepsOn ht hT (k_X6_stepsBack ht hT ⟨⟨⟨by omega, by omega⟩, ⟨by omega, by omega⟩⟩, h⟩)))
def twF (f : Int → Int) : Int := if roF f = 0 then 0 else if onF f = roF f then 1 else 2
theorem k_X6_toward {K : SK} {d : Nat} {c : ct} {Q : ct → Int → Prop} {t : Int} (ht : isTab t) (hT : TR c t) (h : Q c (twF (cuA c t))) : CI K (d + 4) mX6_toward [(2, t)] c Q := by
  have a := onF_r (f := cuA c t)
  have b := baF_r (f := cuA c t)
  have r : 0 ≤ roF (cuA c t) ∧ roF (cuA c t) ≤ 100 := by unfold roF; split <;> omega
  unfold twF at h
  refine e_X6_toward t ht (s_X6_toward_0 t ht (k_X6_round ht hT ⟨fun z => ?_, fun z => ⟨⟨by omega, by omega⟩, k_X6_stepsOn (d := d + 1) ht hT ⟨fun z2 => ?_, fun z2 => ⟨⟨⟨by omega, by omega⟩, ⟨by omega, by omega⟩⟩, ?_⟩⟩⟩⟩))
  · rw [if_pos z] at h; exact h
  · rw [if_neg z, if_pos z2] at h; exact h
  · rw [if_neg z, if_neg z2] at h; exact h
/-- who sits on s; -5: nobody -/
def wsR (f : Int → Int) (s : Int) : Nat → Int → Int
  | 0, _ => -5
  | n + 1, i => if f i = s then i else wsR f s n (i + 1)
def whG (G : ct) (s : Int) : Int := wsR (G 3) s (G 0 10).toNat 0
theorem wsR_hit {f : Int → Int} {s w : Int} (hw : f w = s) : ∀ (n : Nat) (i : Int), i ≤ w → w < i + n → (∀ j, i ≤ j → j < i + n → f j = s → j = w) → wsR f s n i = w := by
  intro n
  induction n with
  | zero => intro i a b _; omega
  | succ n ih =>
    intro i a b h
    rw [wsR]
    split
    · exact h i (by omega) (by omega) (by assumption)
    · have : i ≠ w := by intro e; subst e; contradiction
      exact ih (i + 1) (by omega) (by omega) (fun j g1 g2 g3 => h j (by omega) (by omega) g3)
theorem wsR_no {f : Int → Int} {s : Int} : ∀ (n : Nat) (i : Int), (∀ j, i ≤ j → j < i + n → f j ≠ s) → wsR f s n i = -5 := by
  intro n
  induction n with
  | zero => intro i _; rfl
  | succ n ih =>
    intro i h
    rw [wsR, if_neg (h i (by omega) (by omega))]
    exact ih (i + 1) (fun j g1 g2 => h j (by omega) (by omega))
theorem who_G {H : hf} {c G : ct} {t s : Int} (hR : RT H c t G) (hs : 0 ≤ s ∧ s < 6) : whG G s = if c (t + 8) s < 0 then -5 else c (t + 8) s := by
  obtain ⟨⟨hT, -, -, -⟩, hTS, ⟨e10, -, -, -, -, -⟩, -, hE, -⟩ := hR
  have hn := hT.1
  unfold whG
  by_cases z : c (t + 8) s < 0
  · rw [if_pos z]
    refine wsR_no _ _ (fun j g1 g2 e => ?_)
    have := hTS.1 j g1 (by omega)
    rw [(hE j g1 (by omega)).1.2.2.1, e] at this
    omega
  · rw [if_neg z]
    obtain ⟨w1, w2⟩ := hTS.2 s hs.1 hs.2 (by omega)
    refine wsR_hit (by rw [← (hE _ (by omega) (by omega)).1.2.2.1]; exact w2) _ _ (by omega) (by omega) (fun j g1 g2 e => ?_)
    have := hTS.1 j g1 (by omega)
    rw [(hE j g1 (by omega)).1.2.2.1, e] at this
    omega
def duG (G : ct) (k : Int) : Int := if whG G (Int.tmod (G 0 11 + k) 6) < 0 then 0 else G 5 (whG G (Int.tmod (G 0 11 + k) 6))
theorem due_G {H : hf} {c G : ct} {t k : Int} (hR : RT H c t G) (hk : 0 ≤ k) : cuA c t k = duG G k := by
  have hp := hR.1.1.2.1
  have e11 := hR.2.2.1.2.1
  have hm := tm_r (a := G 0 11 + k) (b := 6) (by omega) (by omega)
  have hw := who_G hR hm
  have hTS := hR.2.1
  unfold cuA duG
  rw [e11]
  by_cases z : c (t + 8) (Int.tmod (G 0 11 + k) 6) < 0
  · rw [if_pos z] at hw
    rw [if_pos z, hw, if_pos (by decide)]
  · rw [if_neg z] at hw
    rw [if_neg z, hw, if_neg z]
    have := (hTS.2 _ hm.1 hm.2 (by omega)).1
    exact (hR.2.2.2.2.1 _ (by omega) (by rw [← hR.2.2.1.1]; exact this)).1.2.2.2.2.1
theorem fbR_congr {f g : Int → Int} : ∀ (n : Nat) (i : Int), (∀ j, i ≤ j → f j = g j) → fbR f n i = fbR g n i := by
  intro n
  induction n with
  | zero => intro i _; rfl
  | succ n ih => intro i h; rw [fbR, fbR, h i (by omega), ih (i + 1) (fun j a => h j (by omega))]
theorem onR_congr {f g : Int → Int} (h : ∀ j, 1 ≤ j → f j = g j) : ∀ (n : Nat) (a i : Int), 1 ≤ i → onR f n a i = onR g n a i := by
  intro n
  induction n with
  | zero => intro a i _; rfl
  | succ n ih => intro a i hi; rw [onR, onR, fbR_congr (f := f) (g := g) _ _ (fun j q => h j (by omega))]; exact ih _ _ (by omega)
theorem baR_congr {f g : Int → Int} (h : ∀ j, 1 ≤ j → f j = g j) : ∀ (n : Nat) (a i : Int), 1 ≤ i → baR f n a i = baR g n a i := by
  intro n
  induction n with
  | zero => intro a i _; rfl
  | succ n ih => intro a i hi; rw [baR, baR, fbR_congr (f := f) (g := g) _ _ (fun j q => h j (by omega))]; exact ih _ _ (by omega)
theorem on_congr {f g : Int → Int} (h : ∀ j, 1 ≤ j → f j = g j) : onF f = onF g := by
  unfold onF; rw [fbR_congr (f := f) (g := g) _ _ h, onR_congr h _ _ _ (by decide)]
theorem ba_congr {f g : Int → Int} (h : ∀ j, 1 ≤ j → f j = g j) : baF f = baF g := by
  unfold baF; rw [fbR_congr (f := f) (g := g) _ _ h, baR_congr h _ _ _ (by decide)]
theorem ro_congr {f g : Int → Int} (h : ∀ j, 1 ≤ j → f j = g j) : roF f = roF g := by unfold roF; rw [on_congr h, ba_congr h]
theorem tw_congr {f g : Int → Int} (h : ∀ j, 1 ≤ j → f j = g j) : twF f = twF g := by unfold twF; rw [on_congr h, ro_congr h]
theorem g_round {H : hf} {G : ct} {K : SK} {d : Nat} {c : ct} {Q : ct → Int → Prop} {t : Int} (ht : isTab t) (hR : RT H c t G) (h : Q c (roF (duG G))) : CI K (d + 3) mX6_round [(2, t)] c Q := by
  refine k_X6_round ht hR.1.1 ?_
  rw [ro_congr (g := duG G) (fun j hj => due_G hR (by omega))]
  exact h
theorem g_toward {H : hf} {G : ct} {K : SK} {d : Nat} {c : ct} {Q : ct → Int → Prop} {t : Int} (ht : isTab t) (hR : RT H c t G) (h : Q c (twF (duG G))) : CI K (d + 4) mX6_toward [(2, t)] c Q := by
  refine k_X6_toward ht hR.1.1 ?_
  rw [tw_congr (g := duG G) (fun j hj => due_G hR (by omega))]
  exact h
/-- the cups that are empty, as bits -/
def emG (G : ct) : Int := smR (fun p => G 5 p * pw p) (G 0 10).toNat 0
theorem g_emptyCups {H : hf} {G : ct} {K : SK} {d : Nat} {c : ct} {Q : ct → Int → Prop} {t : Int} (ht : isTab t) (hR : RT H c t G) (h : Q c (emG G)) : CI K (d + 2) mX6_emptyCups [(2, t)] c Q := by
  refine k_X6_emptyCups ht hR.1.1 ?_
  have e10 := hR.2.2.1.1
  have hn := hR.1.1.1
  rw [smR_congr (g := fun p => G 5 p * pw p) _ _ (fun j g1 g2 => by show c (t + 5) j * pw j = _; rw [(hR.2.2.2.2.1 j g1 (by omega)).1.2.2.2.2.1]), e10]
  exact h
def usG (G : ct) : Int := smR (G 4) (G 0 10).toNat 0
theorem g_usedOfAll {H : hf} {G : ct} {K : SK} {d : Nat} {c : ct} {Q : ct → Int → Prop} {t : Int} (ht : isTab t) (hR : RT H c t G) (h : Q c (usG G)) : CI K (d + 1) mX6_usedOfAll [(2, t)] c Q := by
  refine k_X6_usedOfAll ht hR.1.1.1 ?_
  have e10 := hR.2.2.1.1
  have hn := hR.1.1.1
  rw [smR_congr (g := G 4) _ _ (fun j g1 g2 => (hR.2.2.2.2.1 j g1 (by omega)).1.2.2.2.1), e10]
  exact h
