/-! CONTRACTS: houses of the class: what CLAUSES say -/
/-- a token: a test (fact f, sign s, number k), or -1 not, -2 and, -3 or -/
def tokT (x : Int) : Prop := ∃ f s k : Nat, f < 6 ∧ s < 3 ∧ k < 100 ∧ x = (f : Int) * 65536 + s * 256 + k
def soS (F : Int → Int) (x : Int) : Int := if x / 256 % 256 = 0 then (if F (x / 65536) < x % 256 then 1 else 0) else if x / 256 % 256 = 1 then (if F (x / 65536) = x % 256 then 1 else 0) else (if x % 256 < F (x / 65536) then 1 else 0)
theorem tok_bits : ∀ f : Nat, f < 6 → ∀ s : Nat, s < 3 → ∀ k : Nat, k < 100 → bShr ((f : Int) * 65536 + s * 256 + k) 16 = f ∧ bAnd (bShr ((f : Int) * 65536 + s * 256 + k) 8) 255 = s ∧ bAnd ((f : Int) * 65536 + s * 256 + k) 255 = k := by decide +kernel
theorem tok_mk : ∀ f : Nat, f < 6 → ∀ s : Nat, s < 3 → ∀ k : Nat, k < 100 → bOr (bOr (bShl (f : Int) 16) (bShl (s : Int) 8)) k = (f : Int) * 65536 + s * 256 + k := by decide +kernel
theorem soS_01 (F : Int → Int) (x : Int) : soS F x = 0 ∨ soS F x = 1 := by
  unfold soS
  repeat' split
  all_goals simp
theorem soS_congr {F F' : Int → Int} (h : ∀ j, 0 ≤ j → j < 6 → F j = F' j) {x : Int} (hx : tokT x) : soS F x = soS F' x := by
  obtain ⟨f, s, k, hf, hs, hk, rfl⟩ := hx
  unfold soS
  have e1 : ((f : Int) * 65536 + s * 256 + k) / 65536 = f := by omega
  rw [e1, h f (by omega) (by omega)]
theorem k_X2_isSo {K : SK} {d : Nat} {c : ct} {Q : ct → Int → Prop} {x a : Int} (ha : isS a 10 6) (hx : tokT x) (hF : ∀ j, 0 ≤ j → j < 6 → ir (c a j)) (h : Q c (soS (c a) x)) : CI K (d + 1) mX2_isSo [(0, x), (2, a)] c Q := by
  refine e_X2_isSo _ _ ha (s_X2_isSo_0 _ _ ha ?_)
  obtain ⟨f, s, k, hf, hs, hk, rfl⟩ := hx
  obtain ⟨b1, b2, b3⟩ := tok_bits f hf s hs k hk
  rw [b1, b2, b3]
  have hff := hF f (by omega) (by omega)
  have e1 : ((f : Int) * 65536 + s * 256 + k) / 65536 = f := by omega
  have e2 : ((f : Int) * 65536 + s * 256 + k) / 256 % 256 = s := by omega
  have e3 : ((f : Int) * 65536 + s * 256 + k) % 256 = k := by omega
  unfold soS at h
  rw [e1, e2, e3] at h
  have hki : ir (k : Int) := ⟨by omega, by omega⟩
  refine ⟨⟨by omega, by omega⟩, fun z => absurd z (by omega), fun _ => ⟨⟨by omega, by omega⟩, fun z => absurd z (by omega), fun _ => ⟨⟨by omega, by omega⟩, ⟨by omega, by omega⟩, ?_, ?_, ?_⟩⟩⟩
  · intro z
    rw [if_pos z] at h
    exact ⟨⟨hff, hki⟩, fun z2 => by rw [if_neg (by omega)] at h; exact h, fun z2 => by rw [if_pos (by omega)] at h; exact h⟩
  · intro z
    rw [if_neg (by omega), if_pos z] at h
    exact ⟨fun z2 => by rw [if_pos z2] at h; exact h, fun z2 => ⟨⟨hff, hki⟩, by rw [if_neg z2] at h; exact h⟩⟩
  · intro z
    rw [if_neg z.1, if_neg z.2] at h
    exact ⟨⟨hff, hki⟩, fun z2 => by rw [if_neg (by omega)] at h; exact h, fun z2 => by rw [if_pos (by omega)] at h; exact h⟩
/-- a stack of answers, the newest first; as a number of bits -/
def enc : List Int → Int
  | [] => 0
  | b :: l => b + 2 * enc l
def bits01 (l : List Int) : Prop := ∀ b ∈ l, b = 0 ∨ b = 1
theorem enc_r : ∀ {l : List Int}, bits01 l → 0 ≤ enc l ∧ enc l < 2 ^ l.length
  | [], _ => by simp [enc]
  | b :: l, h => by
    have h1 := enc_r (l := l) (fun x hx => h x (List.mem_cons_of_mem _ hx))
    have h2 := h b List.mem_cons_self
    simp only [enc, List.length_cons, Int.pow_succ]
    rcases h2 with rfl | rfl <;> omega
def stepL (F : Int → Int) (x : Int) (l : List Int) : List Int :=
  if x = -1 then (match l with | b :: l => (1 - b) :: l | l => l)
  else if x = -2 then (match l with | b :: a :: l => (if a = 1 ∧ b = 1 then 1 else 0) :: l | l => l)
  else if x = -3 then (match l with | b :: a :: l => (if a = 1 ∨ b = 1 then 1 else 0) :: l | l => l)
  else soS F x :: l
def evL (T F : Int → Int) : Nat → Int → List Int → List Int
  | 0, _, l => l
  | n + 1, i, l => evL T F n (i + 1) (stepL F (T i) l)
/-- tokens that leave one answer, and never more than eleven -/
def wfT (T : Int → Int) : Nat → Int → Nat → Prop
  | 0, _, d => d = 1
  | n + 1, i, d => (T i = -1 ∧ 1 ≤ d ∧ wfT T n (i + 1) d) ∨ ((T i = -2 ∨ T i = -3) ∧ 2 ≤ d ∧ wfT T n (i + 1) (d - 1)) ∨ (tokT (T i) ∧ d ≤ 10 ∧ wfT T n (i + 1) (d + 1))
theorem tokT_pos {x : Int} (h : tokT x) : 0 ≤ x ∧ x < 400000 := by obtain ⟨f, s, k, hf, hs, hk, rfl⟩ := h; omega
theorem stk_ops : ∀ a : Nat, a < 2048 → bXor (a : Int) 1 = (if (a : Int) % 2 = 0 then (a : Int) + 1 else (a : Int) - 1) ∧ bAnd (a : Int) 1 = (a : Int) % 2 ∧ bOr (bShr (a : Int) 1) (bAnd (a : Int) 1) = (if (a : Int) % 2 = 1 ∧ (a : Int) / 2 % 2 = 0 then (a : Int) / 2 + 1 else (a : Int) / 2) ∧ bAnd (bShr (a : Int) 1) (bOr (bAnd (a : Int) 1) (-2)) = (if (a : Int) % 2 = 0 ∧ (a : Int) / 2 % 2 = 1 then (a : Int) / 2 - 1 else (a : Int) / 2) ∧ bOr (bShl (a : Int) 1) 0 = 2 * (a : Int) ∧ bOr (bShl (a : Int) 1) 1 = 2 * (a : Int) + 1 := by decide +kernel
theorem pow11 {n : Nat} (h : n ≤ 11) : (2 : Int) ^ n ≤ 2048 := by
  have : (2 : Nat) ^ n ≤ 2 ^ 11 := Nat.pow_le_pow_right (by omega) h
  have e : ((2 ^ n : Nat) : Int) = (2 : Int) ^ n := by simp
  omega
def topB (l : List Int) : Int := match l with | b :: _ => b | [] => 0
theorem k_X2_holds {K : SK} {d : Nat} {c : ct} {Q : ct → Int → Prop} {t i0 i1 a : Int} (ht : isHou t) (ha : isS a 10 6) (hF : ∀ j, 0 ≤ j → j < 6 → ir (c a j)) (hi : 0 ≤ i0 ∧ i0 ≤ i1 ∧ i1 ≤ 100) (hw : wfT (c (t + 1)) (i1 - i0).toNat i0 0)
    (h : Q c (topB (evL (c (t + 1)) (c a) (i1 - i0).toNat i0 []))) : CI K (d + 2) mX2_holds [(2, t), (0, i0), (0, i1), (2, a)] c Q := by
  have loop : ∀ (n : Nat) (i : Int) (l : List Int), i = i1 - n → 0 ≤ i → bits01 l → l.length ≤ 11 → wfT (c (t + 1)) n i l.length → Q c (topB (evL (c (t + 1)) (c a) n i l)) →
      WI K (d + 2) mX2_holds 6 [(2, t), (9, 0), (0, i1), (2, a), (0, enc l), (0, i), (9, 0)] [] c Q := by
    intro n
    induction n with
    | zero =>
      intro i l hi0 h0 hb hl hw hq
      have hr := enc_r hb
      have hp := pow11 hl
      obtain ⟨s, hs⟩ : ∃ s : Nat, enc l = s := ⟨(enc l).toNat, by omega⟩
      have ho := stk_ops s (by omega)
      refine s_X2_holds_6 t ht _ ha _ _ _ ⟨⟨⟨by omega, by omega⟩, ⟨by omega, by omega⟩⟩, fun _ => ?_, fun z => absurd (by omega) z⟩
      have hlen : l.length = 1 := hw
      match l, hlen, hs, hb, hq with
      | [b], _, hs, hb, hq =>
        have hb1 := hb b List.mem_cons_self
        have hbe : enc [b] = b := by simp [enc]
        have e1 : bAnd (enc [b]) 1 = b := by rw [hs, ho.2.1, ← hs, hbe]; omega
        rw [e1]
        have hq' : Q c b := hq
        refine ⟨fun z => by rw [z] at hq'; exact hq', fun z => ⟨⟨by omega, by omega⟩, ?_⟩⟩
        rcases hb1 with e | e
        · exact absurd e z
        · rw [e] at hq'; exact hq'
    | succ n ih =>
      intro i l hi0 h0 hb hl hw hq
      have hr := enc_r hb
      have hp := pow11 hl
      obtain ⟨s, hs⟩ : ∃ s : Nat, enc l = s := ⟨(enc l).toNat, by omega⟩
      have ho := stk_ops s (by omega)
      simp only [evL] at hq
      have hi100 : 0 ≤ i ∧ i < 100 := ⟨h0, by omega⟩
      refine s_X2_holds_6 t ht _ ha _ _ _ ⟨⟨⟨by omega, by omega⟩, ⟨by omega, by omega⟩⟩, fun z => absurd z (by omega), fun _ => ⟨hi100, ?_⟩⟩
      rcases hw with ⟨hx, hd, hw⟩ | ⟨hx, hd, hw⟩ | ⟨hx, hd, hw⟩
      · -- not
        rw [hx] at hq ⊢
        refine ⟨⟨by omega, by omega⟩, fun z => absurd z (by omega), fun z => absurd z (by omega), fun _ => ?_, fun z => absurd z (by omega)⟩
        match l, hd, hs, hb, hl, hw, hq with
        | b :: l, _, hs, hb, hl, hw, hq =>
          have hb1 := hb b List.mem_cons_self
          have e1 : bXor (enc (b :: l)) 1 = enc ((1 - b) :: l) := by
            have hse : (s : Int) = b + 2 * enc l := by rw [← hs]; rfl
            rw [hs, ho.1]
            simp only [enc]
            rcases hb1 with rfl | rfl
            · rw [if_pos (by omega)]; omega
            · rw [if_neg (by omega)]; omega
          rw [e1]
          refine ih (i + 1) ((1 - b) :: l) (by omega) (by omega) (fun x hxm => ?_) hl hw (by simpa [stepL] using hq)
          rcases List.mem_cons.mp hxm with e | hxm
          · subst e; omega
          · exact hb x (List.mem_cons_of_mem _ hxm)
      · -- and, or
        match l, hd, hs, hb, hl, hw, hq with
        | b :: a' :: l, _, hs, hb, hl, hw, hq =>
          have hb1 := hb b List.mem_cons_self
          have hb2 := hb a' (List.mem_cons_of_mem _ List.mem_cons_self)
          have hbl : ∀ z, (z = 0 ∨ z = 1) → bits01 (z :: l) := fun z hz x hxm => by
            rcases List.mem_cons.mp hxm with e | hxm
            · subst e; exact hz
            · exact hb x (List.mem_cons_of_mem _ (List.mem_cons_of_mem _ hxm))
          have hse : (s : Int) = b + 2 * (a' + 2 * enc l) := by rw [← hs]; simp only [enc]
          have hl2 : (l.length + 1) ≤ 11 := by simp only [List.length_cons] at hl; omega
          rcases hx with hx | hx
          · rw [hx] at hq ⊢
            refine ⟨⟨by omega, by omega⟩, fun z => absurd z (by omega), fun _ => ?_, fun z => absurd z (by omega), fun z => absurd z (by omega)⟩
            have e1 : bAnd (bShr (enc (b :: a' :: l)) 1) (bOr (bAnd (enc (b :: a' :: l)) 1) (-2)) = enc ((if a' = 1 ∧ b = 1 then 1 else 0) :: l) := by
              rw [hs, ho.2.2.2.1, hse]
              simp only [enc]
              rcases hb1 with rfl | rfl <;> rcases hb2 with rfl | rfl <;> simp <;> omega
            rw [e1]
            exact ih (i + 1) _ (by omega) (by omega) (hbl _ (by split <;> simp)) hl2 hw (by simpa [stepL] using hq)
          · rw [hx] at hq ⊢
            refine ⟨⟨by omega, by omega⟩, fun _ => ?_, fun z => absurd z (by omega), fun z => absurd z (by omega), fun z => absurd z (by omega)⟩
            have e1 : bOr (bShr (enc (b :: a' :: l)) 1) (bAnd (enc (b :: a' :: l)) 1) = enc ((if a' = 1 ∨ b = 1 then 1 else 0) :: l) := by
              rw [hs, ho.2.2.1, hse]
              simp only [enc]
              rcases hb1 with rfl | rfl <;> rcases hb2 with rfl | rfl <;> simp <;> omega
            rw [e1]
            exact ih (i + 1) _ (by omega) (by omega) (hbl _ (by split <;> simp)) hl2 hw (by simpa [stepL] using hq)
      · -- a test
        have hxp := tokT_pos hx
        refine ⟨⟨by omega, by omega⟩, fun z => absurd z (by omega), fun z => absurd z (by omega), fun z => absurd z (by omega), fun _ => ⟨hi100, ?_⟩⟩
        refine k_X2_isSo ha hx hF ?_
        have h01 := soS_01 (c a) (c (t + 1) i)
        refine k_X8_oneIf _ (by rcases h01 with e | e <;> rw [e] <;> exact ⟨by omega, by omega⟩) ?_
        have e0 : (if soS (c a) (c (t + 1) i) = 0 then (0 : Int) else 1) = soS (c a) (c (t + 1) i) := by rcases h01 with e | e <;> rw [e] <;> simp
        rw [e0]
        have e1 : bOr (bShl (enc l) 1) (soS (c a) (c (t + 1) i)) = enc (soS (c a) (c (t + 1) i) :: l) := by
          rw [hs]
          simp only [enc, hs]
          rcases h01 with e | e <;> rw [e]
          · rw [ho.2.2.2.2.1]; omega
          · rw [ho.2.2.2.2.2]; omega
        rw [e1]
        refine ih (i + 1) _ (by omega) (by omega) (fun x hxm => ?_) (by simp only [List.length_cons]; omega) hw ?_
        · rcases List.mem_cons.mp hxm with e | hxm
          · subst e; exact h01
          · exact hb x hxm
        · have n1 : ¬ c (t + 1) i = -1 := by omega
          have n2 : ¬ c (t + 1) i = -2 := by omega
          have n3 : ¬ c (t + 1) i = -3 := by omega
          simpa [stepL, n1, n2, n3] using hq
  refine e_X2_holds t ht _ _ _ ha (s_X2_holds_0 t ht _ _ _ ha ?_)
  exact loop (i1 - i0).toNat i0 [] (by omega) hi.1 (fun x hx => absurd hx List.not_mem_nil) (by simp) hw h
theorem stepL_congr {F F' : Int → Int} (h : ∀ j, 0 ≤ j → j < 6 → F j = F' j) {x : Int} {l : List Int} (hx : x = -1 ∨ x = -2 ∨ x = -3 ∨ tokT x) : stepL F x l = stepL F' x l := by
  unfold stepL
  rcases hx with rfl | rfl | rfl | hx
  · rfl
  · rfl
  · rfl
  · rw [soS_congr h hx]
theorem evL_congr {T T' F F' : Int → Int} (h : ∀ j, 0 ≤ j → j < 6 → F j = F' j) : ∀ (n : Nat) (i : Int) (d : Nat) (l : List Int), wfT T n i d → (∀ j, i ≤ j → j < i + n → T j = T' j) → evL T F n i l = evL T' F' n i l
  | 0, _, _, _, _, _ => rfl
  | n + 1, i, d, l, hw, ht => by
    simp only [evL]
    have e := ht i (by omega) (by omega)
    have hx : T i = -1 ∨ T i = -2 ∨ T i = -3 ∨ tokT (T i) := by
      rcases hw with ⟨hx, -, -⟩ | ⟨hx, -, -⟩ | ⟨hx, -, -⟩
      · exact Or.inl hx
      · rcases hx with hx | hx
        · exact Or.inr (Or.inl hx)
        · exact Or.inr (Or.inr (Or.inl hx))
      · exact Or.inr (Or.inr (Or.inr hx))
    rw [← e, stepL_congr h hx]
    have ht2 : ∀ j, i + 1 ≤ j → j < i + 1 + n → T j = T' j := fun j h1 h2 => ht j (by omega) (by omega)
    rcases hw with ⟨-, -, hw⟩ | ⟨-, -, hw⟩ | ⟨-, -, hw⟩
    · exact evL_congr h n (i + 1) _ _ hw ht2
    · exact evL_congr h n (i + 1) _ _ hw ht2
    · exact evL_congr h n (i + 1) _ _ hw ht2
theorem wfT_congr {T T' : Int → Int} : ∀ (n : Nat) (i : Int) (d : Nat), (∀ j, i ≤ j → j < i + n → T j = T' j) → wfT T n i d → wfT T' n i d
  | 0, _, _, _, hw => hw
  | n + 1, i, d, ht, hw => by
    have e := ht i (by omega) (by omega)
    have ht2 : ∀ j, i + 1 ≤ j → j < i + 1 + n → T j = T' j := fun j h1 h2 => ht j (by omega) (by omega)
    rcases hw with ⟨a, b, hw⟩ | ⟨a, b, hw⟩ | ⟨a, b, hw⟩
    · exact Or.inl ⟨e ▸ a, b, wfT_congr n (i + 1) _ ht2 hw⟩
    · exact Or.inr (Or.inl ⟨e ▸ a, b, wfT_congr n (i + 1) _ ht2 hw⟩)
    · exact Or.inr (Or.inr ⟨e ▸ a, b, wfT_congr n (i + 1) _ ht2 hw⟩)
theorem stepL_bits {F : Int → Int} {x : Int} {l : List Int} (hb : bits01 l) : bits01 (stepL F x l) := by
  unfold stepL
  have tl : ∀ {z : Int} {m : List Int}, bits01 (z :: m) → bits01 m := fun h y hy => h y (List.mem_cons_of_mem _ hy)
  have mk : ∀ {z : Int} {m : List Int}, (z = 0 ∨ z = 1) → bits01 m → bits01 (z :: m) := fun hz h y hy => by
    rcases List.mem_cons.mp hy with e | hy
    · subst e; exact hz
    · exact h y hy
  split
  · match l, hb with
    | [], hb => exact hb
    | b :: l, hb => exact mk (by have := hb b List.mem_cons_self; omega) (tl hb)
  split
  · match l, hb with
    | [], hb => exact hb
    | [b], hb => exact hb
    | b :: a :: l, hb => exact mk (by split <;> simp) (tl (tl hb))
  split
  · match l, hb with
    | [], hb => exact hb
    | [b], hb => exact hb
    | b :: a :: l, hb => exact mk (by split <;> simp) (tl (tl hb))
  · exact mk (soS_01 F x) hb
theorem evL_bits {T F : Int → Int} : ∀ (n : Nat) (i : Int) (l : List Int), bits01 l → bits01 (evL T F n i l)
  | 0, _, _, h => h
  | n + 1, i, l, h => evL_bits n (i + 1) _ (stepL_bits h)
theorem topB_01 {T F : Int → Int} {n : Nat} {i : Int} (_ : wfT T n i 0) : topB (evL T F n i []) = 0 ∨ topB (evL T F n i []) = 1 := by
  have h := evL_bits (T := T) (F := F) n i [] (fun x hx => absurd hx List.not_mem_nil)
  generalize evL T F n i [] = l at h
  match l, h with
  | [], _ => exact Or.inl rfl
  | b :: l, h => exact h b List.mem_cons_self
/-- where clause w's tokens begin -/
def frA (c : ct) (h w : Int) : Int := if w = 0 then 0 else c (h + 3) (w - 1)
/-- a house as the reader leaves it -/
def WFH (c : ct) (h : Int) : Prop := (0 ≤ c h 4 ∧ c h 4 ≤ 10) ∧ (0 ≤ c h 5 ∧ c h 5 ≤ 99) ∧ (0 ≤ c h 6 ∧ c h 6 ≤ 99) ∧ (c h 7 = 0 ∨ c h 7 = 1) ∧
  ((0 ≤ c h 1 ∧ c h 1 ≤ 100) ∧ (c h 7 = 0 → ∀ j, 0 ≤ j → j < c h 1 → c (h + 1) j < 327680)) ∧
  ∀ w, 0 ≤ w → w < c h 4 → (0 ≤ frA c h w ∧ frA c h w ≤ c (h + 3) w ∧ c (h + 3) w ≤ c h 1) ∧ (-99 ≤ c (h + 2) w ∧ c (h + 2) w ≤ 99) ∧ wfT (c (h + 1)) (c (h + 3) w - frA c h w).toNat (frA c h w) 0
/-- what weight w brings -/
def wtA (c : ct) (h : Int) (F : Int → Int) (w : Int) : Int := if topB (evL (c (h + 1)) F (c (h + 3) w - frA c h w).toNat (frA c h w) []) = 0 then 0 else c (h + 2) w
def likA (c : ct) (h : Int) (F : Int → Int) : Int := 2 + smR (wtA c h F) (c h 4).toNat 0
theorem wtA_r {c : ct} {h : Int} {F : Int → Int} (hW : WFH c h) {w : Int} (h0 : 0 ≤ w) (h1 : w < c h 4) : -99 ≤ wtA c h F w ∧ wtA c h F w ≤ 99 := by
  have := (hW.2.2.2.2.2 w h0 h1).2.1
  unfold wtA
  split <;> omega
theorem likA_r {c : ct} {h : Int} {F : Int → Int} (hW : WFH c h) : -1000 ≤ likA c h F ∧ likA c h F ≤ 1000 := by
  have h1 := hW.1
  have := smR_bd (f := wtA c h F) (B := 99) (c h 4).toNat 0 (fun j g1 g2 => wtA_r hW g1 (by omega))
  unfold likA
  omega
theorem wtA_congr {c c' : ct} {h : Int} {F F' : Int → Int} (hW : WFH c h) (hF : ∀ j, 0 ≤ j → j < 6 → F j = F' j) (hc : ∀ k, h ≤ k → k ≤ h + 3 → ∀ j, c' k j = c k j) {w : Int} (h0 : 0 ≤ w) (h1 : w < c h 4) : wtA c h F w = wtA c' h F' w := by
  obtain ⟨-, -, hw⟩ := hW.2.2.2.2.2 w h0 h1
  have e1 : c' (h + 1) = c (h + 1) := funext fun j => hc _ (by omega) (by omega) j
  have e2 : c' (h + 2) = c (h + 2) := funext fun j => hc _ (by omega) (by omega) j
  have e3 : c' (h + 3) = c (h + 3) := funext fun j => hc _ (by omega) (by omega) j
  unfold wtA frA
  rw [e1, e2, e3]
  unfold frA at hw
  rw [evL_congr hF _ _ _ _ hw (fun _ _ _ => rfl)]
theorem likA_congr {c c' : ct} {h : Int} {F F' : Int → Int} (hW : WFH c h) (hF : ∀ j, 0 ≤ j → j < 6 → F j = F' j) (hc : ∀ k, h ≤ k → k ≤ h + 3 → ∀ j, c' k j = c k j) : likA c h F = likA c' h F' := by
  have h4 : c' h 4 = c h 4 := hc h (by omega) (by omega) 4
  have h1 := hW.1
  unfold likA
  rw [h4, smR_congr _ _ (fun j g1 g2 => wtA_congr (F := F) (F' := F') hW hF hc g1 (by omega))]
theorem WFH_congr {c c' : ct} {h : Int} (hW : WFH c h) (hc : ∀ k, h ≤ k → k ≤ h + 3 → ∀ j, c' k j = c k j) : WFH c' h := by
  have e0 : c' h = c h := funext fun j => hc _ (by omega) (by omega) j
  have e1 : c' (h + 1) = c (h + 1) := funext fun j => hc _ (by omega) (by omega) j
  have e2 : c' (h + 2) = c (h + 2) := funext fun j => hc _ (by omega) (by omega) j
  have e3 : c' (h + 3) = c (h + 3) := funext fun j => hc _ (by omega) (by omega) j
  unfold WFH frA at hW ⊢
  rw [e0, e1, e2, e3]
  exact hW
theorem k_X2_liking {K : SK} {d : Nat} {c : ct} {Q : ct → Int → Prop} {t a : Int} (ht : isHou t) (ha : isS a 10 6) (hW : WFH c t) (hF : ∀ j, 0 ≤ j → j < 6 → ir (c a j)) (h : Q c (likA c t (c a))) : CI K (d + 3) mX2_liking [(2, t), (2, a)] c Q := by
  have hn := hW.1
  have loop : ∀ (n : Nat) (i acc : Int), i = c t 4 - n → 0 ≤ i → Q c (acc + smR (wtA c t (c a)) n i) → WI K (d + 3) mX2_liking 7 [(2, t), (2, a), (0, acc), (0, frA c t i), (0, i)] [] c Q := by
    intro n
    induction n with
    | zero =>
      intro i acc hi h0 hq
      refine s_X2_liking_7 t ht _ ha _ _ _ ⟨⟨⟨by omega, by omega⟩, ⟨by omega, by omega⟩⟩, fun _ => ?_, fun z => absurd (by omega) z⟩
      simpa [smR] using hq
    | succ n ih =>
      intro i acc hi h0 hq
      have hlt : i < c t 4 := by omega
      obtain ⟨hfr, hwt, hw⟩ := hW.2.2.2.2.2 i h0 hlt
      have hi10 : 0 ≤ i ∧ i < 10 := ⟨h0, by omega⟩
      rw [smR, ← Int.add_assoc] at hq
      have hnx : frA c t (i + 1) = c (t + 3) i := by unfold frA; rw [if_neg (by omega)]; congr 1; omega
      refine s_X2_liking_7 t ht _ ha _ _ _ ⟨⟨⟨by omega, by omega⟩, ⟨by omega, by omega⟩⟩, fun z => absurd z (by omega), fun _ => ⟨hi10, ?_⟩⟩
      refine k_X2_holds ht ha hF ⟨hfr.1, hfr.2.1, Int.le_trans hfr.2.2 hW.2.2.2.2.1.1.2⟩ hw ?_
      refine ⟨fun z => ⟨hi10, ?_⟩, fun z => ⟨?_, hi10, hi10, ?_⟩⟩
      · rw [← hnx]
        refine ih (i + 1) acc (by omega) (by omega) ?_
        rw [show wtA c t (c a) i = 0 from by unfold wtA; rw [if_pos z], Int.add_zero] at hq
        exact hq
      · rcases topB_01 (F := c a) hw with e | e <;> rw [e] <;> exact ⟨by omega, by omega⟩
      · rw [← hnx]
        refine ih (i + 1) (acc + c (t + 2) i) (by omega) (by omega) ?_
        rw [show wtA c t (c a) i = c (t + 2) i from by unfold wtA; rw [if_neg z]] at hq
        exact hq
  refine e_X2_liking t ht _ ha (s_X2_liking_0 t ht _ ha ?_)
  exact loop (c t 4).toNat 0 2 (by omega) (by omega) h
/-- what a test may ask of p and q -/
def fct (c : ct) (t p q : Int) : Int → Int := fun j => if j = 0 then p else if j = 1 then q else if j = 2 then c (t + 1) p else if j = 3 then c (t + 1) q else if j = 4 then c (t + 2) p else Int.tmod (c t 12) 10
def lkA (c : ct) (t p q : Int) : Int := likA c (c t 13) (fct c t p q)
theorem hou_far {h t k : Int} (hh : isHou h) (ht : isTab t) (h1 : h ≤ k) (h2 : k ≤ h + 3) : k ≠ t + 9 ∧ k ≠ t + 10 ∧ k ≠ t ∧ k ≠ t + 1 ∧ k ≠ t + 2 ∧ k ≠ t + 3 ∧ k ≠ t + 4 ∧ k ≠ t + 5 ∧ k ≠ t + 6 ∧ k ≠ t + 7 ∧ k ≠ t + 8 := by
  unfold isHou at hh
  unfold isTab at ht
  omega
/-- nothing changed but rows 9 and 10 of a table -/
def off910 (c c' : ct) (t : Int) : Prop := ∀ k, k ≠ t + 9 → k ≠ t + 10 → ∀ j, c' k j = c k j
theorem lkA_congr {c c' : ct} {t p q : Int} (ht : isTab t) (hh : isHou (c t 13)) (hW : WFH c (c t 13)) (ho : off910 c c' t) : lkA c' t p q = lkA c t p q := by
  have e0 : ∀ j, c' t j = c t j := fun j => ho t (by omega) (by omega) j
  have e1 : ∀ j, c' (t + 1) j = c (t + 1) j := fun j => ho _ (by omega) (by omega) j
  have e2 : ∀ j, c' (t + 2) j = c (t + 2) j := fun j => ho _ (by omega) (by omega) j
  have ef : fct c' t p q = fct c t p q := by funext j; simp only [fct, e0, e1, e2]
  unfold lkA
  rw [e0, ef]
  exact (likA_congr hW (fun _ _ _ => rfl) (fun k h1 h2 j => ho k (hou_far hh ht h1 h2).1 (hou_far hh ht h1 h2).2.1 j)).symm
theorem fct_ir {c : ct} {t p q : Int} (hT : TR c t) (hp : 0 ≤ p ∧ p < 6) (hq : 0 ≤ q ∧ q < 6) (j : Int) : ir (fct c t p q j) := by
  have h1 := hT.2.2.2.2.1 p hp.1 hp.2
  have h2 := hT.2.2.2.2.1 q hq.1 hq.2
  have h3 := tm_r (b := 10) hT.2.2.1.1 (by omega)
  unfold fct
  repeat' split
  all_goals exact ⟨by omega, by omega⟩
theorem k_X6_reckon {K : SK} {d : Nat} {c : ct} {Q : ct → Prop} {t : Int} (ht : isTab t) (hT : TR c t) (hW : WFH c (c t 13)) (h : ∀ c', off910 c c' t → (∀ p q, 0 ≤ p → p < c t 10 → 0 ≤ q → q < c t 10 → c' (t + 9) (p * 6 + q) = lkA c t p q) → (∀ i, 0 ≤ i → i < 36 → -1000 ≤ c' (t + 9) i ∧ c' (t + 9) i ≤ 1000) → Q c') : CV K (d + 4) mX6_reckon [(2, t)] c Q := by
  have hn := hT.1
  have hh := hT.2.2.2.1
  have hy := tm_r (b := 10) hT.2.2.1.1 (by omega)
  have hyr := hT.2.2.1
  -- the inner loop
  have inner : ∀ (p : Int), 0 ≤ p → p < c t 10 → (∀ c2, off910 c c2 t → (∀ p' q, 0 ≤ p' → p' ≤ p → 0 ≤ q → q < c t 10 → c2 (t + 9) (p' * 6 + q) = lkA c t p' q) → (∀ i, 0 ≤ i → i < 36 → -1000 ≤ c2 (t + 9) i ∧ c2 (t + 9) i ≤ 1000) → c2 (t + 10) 5 = Int.tmod (c t 12) 10 → WV K (d + 4) mX6_reckon 15 [(2, t), (0, p + 1), (9, 0)] [] c2 Q) →
      ∀ (n : Nat) (q : Int) (c1 : ct), q = c t 10 - n → 0 ≤ q → off910 c c1 t → (∀ p' q', 0 ≤ p' → (p' < p ∨ (p' = p ∧ q' < q)) → 0 ≤ q' → q' < c t 10 → c1 (t + 9) (p' * 6 + q') = lkA c t p' q') → (∀ i, 0 ≤ i → i < 36 → -1000 ≤ c1 (t + 9) i ∧ c1 (t + 9) i ≤ 1000) →
        c1 (t + 10) 5 = Int.tmod (c t 12) 10 → c1 (t + 10) 0 = p → c1 (t + 10) 2 = c (t + 1) p → c1 (t + 10) 4 = c (t + 2) p → WV K (d + 4) mX6_reckon 56 [(2, t), (0, p), (0, q)] [] c1 Q := by
    intro p hp0 hp1 hout n
    induction n with
    | zero =>
      intro q c1 hq0 hq1 ho hb hr e5 e0 e2 e4
      have et : c1 t 10 = c t 10 := ho t (by omega) (by omega) 10
      refine s_X6_reckon_56 t ht _ _ ?_
      rw [et]
      exact ⟨⟨⟨by omega, by omega⟩, ⟨by omega, by omega⟩⟩, fun _ => hout c1 ho (fun p' q' g1 g2 g3 g4 => hb p' q' g1 (by omega) g3 g4) hr e5, fun z => absurd (by omega) z⟩
    | succ n ih =>
      intro q c1 hq0 hq1 ho hb hr e5 e0 e2 e4
      have et : c1 t 10 = c t 10 := ho t (by omega) (by omega) 10
      have et13 : c1 t 13 = c t 13 := ho t (by omega) (by omega) 13
      have et1 : ∀ j, c1 (t + 1) j = c (t + 1) j := fun j => ho _ (by omega) (by omega) j
      have hq6 : 0 ≤ q ∧ q < 6 := ⟨hq1, by omega⟩
      refine s_X6_reckon_56 t ht _ _ ?_
      rw [et]
      refine ⟨⟨⟨by omega, by omega⟩, ⟨by omega, by omega⟩⟩, fun z => absurd z (by omega), fun _ c3 e3 => ⟨hq6, fun c5 e5' => ?_⟩⟩
      have h3 : off910 c c3 t := fun k g1 g2 j => by subst e3; simp only [up2]; rw [if_neg (by omega)]; exact ho k g1 g2 j
      have h5 : off910 c c5 t := fun k g1 g2 j => by subst e5'; simp only [up2]; rw [if_neg (by omega)]; exact h3 k g1 g2 j
      have f13 : c5 t 13 = c t 13 := h5 t (by omega) (by omega) 13
      have f1 : c3 (t + 1) q = c (t + 1) q := h3 _ (by omega) (by omega) q
      rw [f1] at e5'
      have ff : ∀ j, 0 ≤ j → j < 6 → c5 (t + 10) j = fct c t p q j := by
        intro j g1 g2
        subst e5'; subst e3
        simp only [up2, true_and, fct]
        have : j = 0 ∨ j = 1 ∨ j = 2 ∨ j = 3 ∨ j = 4 ∨ j = 5 := by omega
        rcases this with rfl | rfl | rfl | rfl | rfl | rfl <;> simp [e0, e2, e4, e5]
      have hW5 : WFH c5 (c t 13) := WFH_congr hW (fun k g1 g2 j => h5 k (hou_far hh ht g1 g2).1 (hou_far hh ht g1 g2).2.1 j)
      have elk : likA c5 (c t 13) (c5 (t + 10)) = lkA c t p q := (likA_congr (c := c) (c' := c5) hW (fun j g1 g2 => (ff j g1 g2).symm) (fun k g1 g2 j => h5 k (hou_far hh ht g1 g2).1 (hou_far hh ht g1 g2).2.1 j)).symm
      rw [f13]
      refine ⟨hh, k_X2_liking hh (tab_9 ht) hW5 (fun j g1 g2 => by rw [ff j g1 g2]; exact fct_ir hT ⟨hp0, by omega⟩ hq6 j) ⟨⟨by omega, by omega⟩, fun c9 e9 => ?_⟩⟩
      rw [elk] at e9
      have hlr := likA_r (F := fct c t p q) hW
      have h9b : ∀ i, c9 (t + 9) i = if i = p * 6 + q then lkA c t p q else c1 (t + 9) i := by
        intro i
        subst e9
        simp only [up2, true_and]
        split
        · rfl
        · subst e5'; subst e3
          simp only [up2]
          rw [if_neg (by omega), if_neg (by omega)]
      have h9t : ∀ j, c9 (t + 10) j = c5 (t + 10) j := fun j => by subst e9; simp only [up2]; rw [if_neg (by omega)]
      refine ih (q + 1) c9 (by omega) (by omega) ?_ ?_ ?_ ?_ ?_ ?_ ?_
      · intro k g1 g2 j
        subst e9
        simp only [up2]
        rw [if_neg (by omega)]
        exact h5 k g1 g2 j
      · intro p' q' g1 g2 g3 g4
        rw [h9b]
        by_cases e : p' * 6 + q' = p * 6 + q
        · rw [if_pos e]
          have : p' = p ∧ q' = q := by omega
          rw [this.1, this.2]
        · rw [if_neg e]
          exact hb p' q' g1 (by omega) g3 g4
      · intro i g1 g2
        rw [h9b]
        split
        · exact hlr
        · exact hr i g1 g2
      · rw [h9t, ff 5 (by omega) (by omega)]; simp [fct]
      · rw [h9t, ff 0 (by omega) (by omega)]; simp [fct]
      · rw [h9t, ff 2 (by omega) (by omega)]; simp [fct]
      · rw [h9t, ff 4 (by omega) (by omega)]; simp [fct]
  have outer : ∀ (n : Nat) (p : Int) (c1 : ct), p = c t 10 - n → 0 ≤ p → off910 c c1 t → (∀ p' q, 0 ≤ p' → p' < p → 0 ≤ q → q < c t 10 → c1 (t + 9) (p' * 6 + q) = lkA c t p' q) → (∀ i, 0 ≤ i → i < 36 → -1000 ≤ c1 (t + 9) i ∧ c1 (t + 9) i ≤ 1000) → c1 (t + 10) 5 = Int.tmod (c t 12) 10 → WV K (d + 4) mX6_reckon 15 [(2, t), (0, p), (9, 0)] [] c1 Q := by
    intro n
    induction n with
    | zero =>
      intro p c1 hp0 hp1 ho hb hr e5
      have et : c1 t 10 = c t 10 := ho t (by omega) (by omega) 10
      refine s_X6_reckon_15 t ht _ ?_
      rw [et]
      exact ⟨⟨⟨by omega, by omega⟩, ⟨by omega, by omega⟩⟩, fun _ => h c1 ho (fun p' q g1 g2 g3 g4 => hb p' q g1 (by omega) g3 g4) hr, fun z => absurd (by omega) z⟩
    | succ n ih =>
      intro p c1 hp0 hp1 ho hb hr e5
      have et : c1 t 10 = c t 10 := ho t (by omega) (by omega) 10
      have hp6 : 0 ≤ p ∧ p < 6 := ⟨hp1, by omega⟩
      refine s_X6_reckon_15 t ht _ ?_
      rw [et]
      refine ⟨⟨⟨by omega, by omega⟩, ⟨by omega, by omega⟩⟩, fun z => absurd z (by omega), fun _ c3 e3 => ⟨hp6, fun c5 e5' => ⟨hp6, fun c7 e7 => ?_⟩⟩⟩
      have h3 : off910 c c3 t := fun k g1 g2 j => by subst e3; simp only [up2]; rw [if_neg (by omega)]; exact ho k g1 g2 j
      have h5 : off910 c c5 t := fun k g1 g2 j => by subst e5'; simp only [up2]; rw [if_neg (by omega)]; exact h3 k g1 g2 j
      have h7 : off910 c c7 t := fun k g1 g2 j => by subst e7; simp only [up2]; rw [if_neg (by omega)]; exact h5 k g1 g2 j
      have f1 : c3 (t + 1) p = c (t + 1) p := h3 _ (by omega) (by omega) p
      have f2 : c5 (t + 2) p = c (t + 2) p := h5 _ (by omega) (by omega) p
      rw [f1] at e5'
      rw [f2] at e7
      have h79 : ∀ i, c7 (t + 9) i = c1 (t + 9) i := fun i => by
        subst e7; subst e5'; subst e3
        simp only [up2]
        rw [if_neg (by omega), if_neg (by omega), if_neg (by omega)]
      refine inner p hp1 (by omega) (fun c2 g1 g2 g3 g4 => ih (p + 1) c2 (by omega) (by omega) g1 (fun p' q a1 a2 a3 a4 => g2 p' q a1 (by omega) a3 a4) g3 g4) (c t 10).toNat 0 c7 (by omega) (by omega) h7 ?_ ?_ ?_ ?_ ?_ ?_
      · intro p' q' a1 a2 a3 a4
        rw [h79]
        exact hb p' q' a1 (by omega) a3 a4
      · intro i a1 a2
        rw [h79]; exact hr i a1 a2
      · subst e7; subst e5'; subst e3; simp [up2, e5]
      · subst e7; subst e5'; subst e3; simp [up2]
      · subst e7; subst e5'; subst e3; simp [up2]
      · subst e7; simp [up2]
  refine e_X6_reckon t ht (s_X6_reckon_0 t ht ⟨⟨by omega, by omega⟩, fun c2 e2 => ?_⟩)
  refine outer (c t 10).toNat 0 c2 (by omega) (by omega) ?_ ?_ ?_ ?_
  · intro k g1 g2 j; subst e2; simp only [up2]; rw [if_neg (by omega)]
  · intro p' q g1 g2; exact absurd g1 (by omega)
  · intro i g1 g2; subst e2; simp only [up2]; rw [if_neg (by omega)]; exact hT.2.2.2.2.2.2 i g1 g2
  · subst e2; simp [up2]
