/-! CONTRACTS: the reference's way of the pot -/
def cvR (f : Int → Int) (u b : Int) : Nat → Int → Int
  | 0, _ => 1
  | n + 1, k => if f k = 0 ∨ k ≤ u ∨ 6 - k ≤ b then cvR f u b n (k + 1) else 0
def cvF (f : Int → Int) (u b : Int) : Int := cvR f u b 6 0
def lsI (x y : Int) : Int := if x < y then x else y
def stI (f : Int → Int) (u a : Int) : Nat → Int → Int → Int
  | 0, _, x => x
  | n + 1, b, x => stI f u a n (b + 1) (if cvF f (if u = 0 then b else a) (if u = 0 then a else b) = 0 then x else lsI (if b = 0 then a else 2 * a + b) x)
def stO (f : Int → Int) (u : Int) : Nat → Int → Int → Int
  | 0, _, x => x
  | n + 1, a, x => stO f u n (a + 1) (stI f u a 6 0 x)
def stF (f : Int → Int) (u : Int) : Int := stO f u 5 1 99
theorem cvR_01 {f : Int → Int} {u b : Int} : ∀ (n : Nat) (k : Int), cvR f u b n k = 0 ∨ cvR f u b n k = 1 := by
  intro n
  induction n with
  | zero => intro k; exact Or.inr rfl
  | succ n ih =>
    intro k
    rw [cvR]
    split
    · exact ih _
    · exact Or.inl rfl
theorem cvR_congr {f g : Int → Int} {u b : Int} (hu : 0 ≤ u) (h : ∀ k, 1 ≤ k → k ≤ 5 → f k = g k) : ∀ (n : Nat) (k : Int), 0 ≤ k → k + n ≤ 6 → cvR f u b n k = cvR g u b n k := by
  intro n
  induction n with
  | zero => intro k _ _; rfl
  | succ n ih =>
    intro k k0 k6
    rw [cvR, cvR, ih (k + 1) (by omega) (by omega)]
    by_cases z : k = 0
    · rw [if_pos (Or.inr (Or.inl (by omega))), if_pos (Or.inr (Or.inl (by omega)))]
    · rw [h k (by omega) (by omega)]
theorem stI_congr {f g : Int → Int} {u a : Int} (ha : 0 ≤ a) (h : ∀ k, 1 ≤ k → k ≤ 5 → f k = g k) : ∀ (n : Nat) (b x : Int), 0 ≤ b → stI f u a n b x = stI g u a n b x := by
  intro n
  induction n with
  | zero => intro b x _; rfl
  | succ n ih =>
    intro b x hb
    have e : cvF f (if u = 0 then b else a) (if u = 0 then a else b) = cvF g (if u = 0 then b else a) (if u = 0 then a else b) := cvR_congr (by split <;> assumption) h 6 0 (by decide) (by decide)
    rw [stI, stI, e]
    exact ih _ _ (by omega)
theorem stO_congr {f g : Int → Int} {u : Int} (h : ∀ k, 1 ≤ k → k ≤ 5 → f k = g k) : ∀ (n : Nat) (a x : Int), 0 ≤ a → stO f u n a x = stO g u n a x := by
  intro n
  induction n with
  | zero => intro a x _; rfl
  | succ n ih =>
    intro a x ha
    rw [stO, stO, stI_congr ha h 6 0 x (by decide)]
    exact ih _ _ (by omega)
def canF (a b c d e : Nat) : Int → Int := fun k => if k = 1 then a else if k = 2 then b else if k = 3 then c else if k = 4 then d else if k = 5 then e else 0
theorem way_key : ∀ a : Nat, a < 2 → ∀ b : Nat, b < 2 → ∀ c : Nat, c < 2 → ∀ d : Nat, d < 2 → ∀ e : Nat, e < 2 → roF (canF a b c d e) = (if cvF (canF a b c d e) 0 0 = 0 then lsI (stF (canF a b c d e) 1) (stF (canF a b c d e) 0) else 0) ∧ twF (canF a b c d e) = (if cvF (canF a b c d e) 0 0 = 0 then (if stF (canF a b c d e) 0 < stF (canF a b c d e) 1 then 2 else 1) else 0) := by decide +kernel
theorem fb5 {f g : Int → Int} (h : ∀ k, 1 ≤ k → k ≤ 5 → f k = g k) : ∀ (n : Nat) (i : Int), 1 ≤ i → i + n ≤ 6 → fbR f n i = fbR g n i := by
  intro n
  induction n with
  | zero => intro i _ _; rfl
  | succ n ih => intro i a b; rw [fbR, fbR, h i a (by omega), ih (i + 1) (by omega) (by omega)]
theorem on5 {f g : Int → Int} (h : ∀ k, 1 ≤ k → k ≤ 5 → f k = g k) : ∀ (n : Nat) (a i : Int), 1 ≤ i → i + n ≤ 6 → onR f n a i = onR g n a i := by
  intro n
  induction n with
  | zero => intro a i _ _; rfl
  | succ n ih => intro a i hi h6; rw [onR, onR, fb5 h _ _ (by omega) (by omega)]; exact ih _ _ (by omega) (by omega)
theorem ba5 {f g : Int → Int} (h : ∀ k, 1 ≤ k → k ≤ 5 → f k = g k) : ∀ (n : Nat) (a i : Int), 1 ≤ i → i + n ≤ 6 → baR f n a i = baR g n a i := by
  intro n
  induction n with
  | zero => intro a i _ _; rfl
  | succ n ih => intro a i hi h6; rw [baR, baR, fb5 h _ _ (by omega) (by omega)]; exact ih _ _ (by omega) (by omega)
theorem ro5F {f g : Int → Int} (h : ∀ k, 1 ≤ k → k ≤ 5 → f k = g k) : onF f = onF g ∧ baF f = baF g ∧ roF f = roF g ∧ twF f = twF g := by
  have e1 : onF f = onF g := by unfold onF; rw [fb5 h 5 1 (by decide) (by decide), on5 h 5 0 1 (by decide) (by decide)]
  have e2 : baF f = baF g := by unfold baF; rw [fb5 h 5 1 (by decide) (by decide), ba5 h 5 _ 1 (by decide) (by decide)]
  have e3 : roF f = roF g := by unfold roF; rw [e1, e2]
  exact ⟨e1, e2, e3, by unfold twF; rw [e1, e3]⟩
theorem way_all {f : Int → Int} (h : ∀ k, 1 ≤ k → k ≤ 5 → f k = 0 ∨ f k = 1) : roF f = (if cvF f 0 0 = 0 then lsI (stF f 1) (stF f 0) else 0) ∧ twF f = (if cvF f 0 0 = 0 then (if stF f 0 < stF f 1 then 2 else 1) else 0) := by
  have e : ∀ k, 1 ≤ k → k ≤ 5 → f k = canF (f 1).toNat (f 2).toNat (f 3).toNat (f 4).toNat (f 5).toNat k := by
    intro k a b
    have hk := h k a b
    have : k = 1 ∨ k = 2 ∨ k = 3 ∨ k = 4 ∨ k = 5 := by omega
    rcases this with rfl | rfl | rfl | rfl | rfl <;> simp [canF] <;> omega
  have k := way_key (f 1).toNat (by have := h 1 (by decide) (by decide); omega) (f 2).toNat (by have := h 2 (by decide) (by decide); omega) (f 3).toNat (by have := h 3 (by decide) (by decide); omega) (f 4).toNat (by have := h 4 (by decide) (by decide); omega) (f 5).toNat (by have := h 5 (by decide) (by decide); omega)
  have r := ro5F e
  have c0 : cvF f 0 0 = cvF (canF (f 1).toNat (f 2).toNat (f 3).toNat (f 4).toNat (f 5).toNat) 0 0 := cvR_congr (by decide) e 6 0 (by decide) (by decide)
  have s1 : ∀ u, stF f u = stF (canF (f 1).toNat (f 2).toNat (f 3).toNat (f 4).toNat (f 5).toNat) u := fun u => stO_congr e 5 1 99 (by decide)
  rw [r.2.2.1, r.2.2.2, c0, s1 0, s1 1]
  exact k
theorem du_01 {c G : ct} (hM : MT c G) {k : Int} : duG G k = 0 ∨ duG G k = 1 := by
  unfold duG
  split
  · exact Or.inl rfl
  · have := whG_r (s := Int.tmod (G 0 11 + k) 6) hM
    have h : 0 ≤ whG G (Int.tmod (G 0 11 + k) 6) ∧ whG G (Int.tmod (G 0 11 + k) 6) < G 0 10 := by omega
    exact (hM.2.2.2.2.2.2 _ h.1 h.2).2.2.2.2.1
theorem m_isDue {c G : ct} {K : SK} {d : Nat} {Q : ct → Int → Prop} {s : Int} (hM : MT c G) (hs : ir s) (h : Q c (if whG G s < 0 then 0 else G 5 (whG G s))) : CI K (d + 2) mX9_isDue [(2, 108), (0, s)] c Q := by
  have hn := hM.1
  have hw := whG_r (s := s) hM
  refine e_X9_isDue s (s_X9_isDue_0 s (m_who hM hs ⟨⟨by omega, by omega⟩, fun z => ?_, fun z => m_emp hM ⟨by omega, by omega⟩ ?_⟩))
  · rw [if_pos z] at h; exact h
  · rw [if_neg z] at h
    have r := (hM.2.2.2.2.2.2 (whG G s) (by omega) (by omega)).2.2.2.2.1
    refine ⟨fun w => ?_, fun w => ⟨ir_01 r, ?_⟩⟩
    · rw [w] at h; exact h
    · have : G 5 (whG G s) = 1 := by omega
      rw [this] at h; exact h
theorem m_isCovered {c G : ct} {K : SK} {d : Nat} {Q : ct → Int → Prop} {u b : Int} (hM : MT c G) (hu : 0 ≤ u ∧ u ≤ 5) (hb : 0 ≤ b ∧ b ≤ 5) (h : Q c (cvF (duG G) u b)) : CI K (d + 3) mX9_isCovered [(2, 108), (0, u), (0, b)] c Q := by
  have hp := hM.2.1
  have loop : ∀ (n : Nat) (k : Int), k = 6 - n → 0 ≤ k → Q c (cvR (duG G) u b n k) → WI K (d + 3) mX9_isCovered 2 [(2, 108), (0, u), (0, b), (0, k)] [] c Q := by
    intro n
    induction n with
    | zero =>
      intro k hk k0 hq
      exact s_X9_isCovered_2 u b k ⟨⟨by omega, by omega⟩, fun _ => hq, fun z => absurd (by omega) z⟩
    | succ n ih =>
      intro k hk k0 hq
      refine s_X9_isCovered_2 u b k ?_
      rw [hp.1]
      have t := tm_r (a := G 0 11 + k) (b := 6) (by omega) (by decide)
      rw [cvR] at hq
      refine ⟨⟨by omega, by omega⟩, fun z => absurd z (by omega), fun _ => ⟨⟨by omega, by omega⟩, m_isDue hM ⟨by omega, by omega⟩ ?_⟩⟩
      show (duG G k = 0 → _) ∧ _
      refine ⟨fun z => ?_, fun z => ⟨ir_01 (du_01 hM), ⟨⟨by omega, by omega⟩, ⟨by omega, by omega⟩⟩, fun z2 => ?_, fun z2 => ⟨⟨⟨by omega, by omega⟩, ⟨by omega, by omega⟩⟩, fun z3 => ?_, fun z3 => ?_⟩⟩⟩
      · rw [if_pos (Or.inl z)] at hq; exact ih (k + 1) (by omega) (by omega) hq
      · rw [if_pos (Or.inr (Or.inl z2))] at hq; exact ih (k + 1) (by omega) (by omega) hq
      · rw [if_pos (Or.inr (Or.inr z3))] at hq; exact ih (k + 1) (by omega) (by omega) hq
      · rw [if_neg (fun q => q.elim z (fun q => q.elim z2 z3))] at hq; exact hq
  exact e_X9_isCovered u b (s_X9_isCovered_0 u b (loop 6 0 (by decide) (by decide) h))
theorem m_steps {c G : ct} {K : SK} {d : Nat} {Q : ct → Int → Prop} {u : Int} (hM : MT c G) (hu : u = 0 ∨ u = 1) (h : 0 ≤ stF (duG G) u → stF (duG G) u ≤ 99 → Q c (stF (duG G) u)) : CI K (d + 4) mX9_steps [(2, 108), (0, u)] c Q := by
  have inner : ∀ (n : Nat) (b a x : Int), b = 6 - n → 0 ≤ b → 1 ≤ a → a ≤ 5 → 0 ≤ x → x ≤ 99 → (0 ≤ stI (duG G) u a n b x → stI (duG G) u a n b x ≤ 99 → WI K (d + 4) mX9_steps 5 [(2, 108), (0, u), (0, stI (duG G) u a n b x), (0, a + 1), (9, 0), (9, 0)] [] c Q) → WI K (d + 4) mX9_steps 14 [(2, 108), (0, u), (0, x), (0, a), (0, b), (9, 0)] [] c Q := by
    intro n
    induction n with
    | zero =>
      intro b a x hb b0 a1 a5 x0 x9 hw
      exact s_X9_steps_14 u x a b ⟨⟨by omega, by omega⟩, fun _ => hw x0 x9, fun z => absurd (by omega) z⟩
    | succ n ih =>
      intro b a x hb b0 a1 a5 x0 x9 hw
      rw [stI] at hw
      have cv := cvR_01 (f := duG G) (u := if u = 0 then b else a) (b := if u = 0 then a else b) 6 0
      have cv : cvF (duG G) (if u = 0 then b else a) (if u = 0 then a else b) = 0 ∨ cvF (duG G) (if u = 0 then b else a) (if u = 0 then a else b) = 1 := cv
      have ns : ¬ cvF (duG G) (if u = 0 then b else a) (if u = 0 then a else b) = 0 → ∀ y, (if b = 0 then a else 2 * a + b) = y → (x ≤ y → WI K (d + 4) mX9_steps 14 [(2, 108), (0, u), (0, x), (0, a), (0, b + 1), (9, 0)] [] c Q) ∧ (¬ x ≤ y → WI K (d + 4) mX9_steps 14 [(2, 108), (0, u), (0, y), (0, a), (0, b + 1), (9, 0)] [] c Q) := by
        intro z y hy
        rw [if_neg z, hy] at hw
        have y0 : 0 ≤ y := by rw [← hy]; split <;> omega
        refine ⟨fun g => ?_, fun g => ?_⟩
        · rw [show lsI y x = x from if_neg (by omega)] at hw
          exact ih (b + 1) a x (by omega) (by omega) a1 a5 x0 x9 hw
        · rw [show lsI y x = y from if_pos (by omega)] at hw
          exact ih (b + 1) a y (by omega) (by omega) a1 a5 y0 (by omega) hw
      have end0 : cvF (duG G) (if u = 0 then b else a) (if u = 0 then a else b) = 0 → WI K (d + 4) mX9_steps 14 [(2, 108), (0, u), (0, x), (0, a), (0, b + 1), (9, 0)] [] c Q := fun z => by
        rw [if_pos z] at hw
        exact ih (b + 1) a x (by omega) (by omega) a1 a5 x0 x9 hw
      have tail : (cvF (duG G) (if u = 0 then b else a) (if u = 0 then a else b) = 0 → WI K (d + 4) mX9_steps 14 [(2, 108), (0, u), (0, x), (0, a), (0, b + 1), (9, 0)] [] c Q) ∧ (¬ (cvF (duG G) (if u = 0 then b else a) (if u = 0 then a else b) = 0) → ir (cvF (duG G) (if u = 0 then b else a) (if u = 0 then a else b)) ∧ (b = 0 → (ir a ∧ ir x) ∧ (x ≤ a → WI K (d + 4) mX9_steps 14 [(2, 108), (0, u), (0, x), (0, a), (0, b + 1), (9, 0)] [] c Q) ∧ (¬ (x ≤ a) → WI K (d + 4) mX9_steps 14 [(2, 108), (0, u), (0, a), (0, a), (0, b + 1), (9, 0)] [] c Q)) ∧ (¬ (b = 0) → ir b ∧ (ir (2 * a + b) ∧ ir x) ∧ (x ≤ 2 * a + b → WI K (d + 4) mX9_steps 14 [(2, 108), (0, u), (0, x), (0, a), (0, b + 1), (9, 0)] [] c Q) ∧ (¬ (x ≤ 2 * a + b) → WI K (d + 4) mX9_steps 14 [(2, 108), (0, u), (0, 2 * a + b), (0, a), (0, b + 1), (9, 0)] [] c Q))) :=
        ⟨end0, fun z => ⟨ir_01 cv, fun w => ⟨⟨⟨by omega, by omega⟩, ⟨by omega, by omega⟩⟩, ns z a (if_pos w)⟩, fun w => ⟨⟨by omega, by omega⟩, ⟨⟨by omega, by omega⟩, ⟨by omega, by omega⟩⟩, ns z _ (if_neg w)⟩⟩⟩
      have b5 : b ≤ 5 := by omega
      refine s_X9_steps_14 u x a b ⟨⟨by omega, by omega⟩, fun z => absurd z (by omega), fun _ => ⟨fun u0 => ⟨fun _ => m_isCovered hM ⟨by omega, by omega⟩ ⟨by omega, by omega⟩ ?_, fun z => absurd u0 z⟩, fun u1 => ⟨ir_01 hu, fun z => absurd z u1, fun _ => ⟨ir_01 hu, m_isCovered hM ⟨by omega, by omega⟩ ⟨by omega, by omega⟩ ?_⟩⟩⟩⟩
      · rw [if_pos u0, if_pos u0] at tail; exact tail
      · rw [if_neg u1, if_neg u1] at tail; exact tail
  have outer : ∀ (n : Nat) (a x : Int), a = 6 - n → 1 ≤ a → 0 ≤ x → x ≤ 99 → (0 ≤ stO (duG G) u n a x → stO (duG G) u n a x ≤ 99 → Q c (stO (duG G) u n a x)) → WI K (d + 4) mX9_steps 5 [(2, 108), (0, u), (0, x), (0, a), (9, 0), (9, 0)] [] c Q := by
    intro n
    induction n with
    | zero =>
      intro a x ha a1 x0 x9 hq
      exact s_X9_steps_5 u x a ⟨⟨by omega, by omega⟩, fun _ => hq x0 x9, fun z => absurd (by omega) z⟩
    | succ n ih =>
      intro a x ha a1 x0 x9 hq
      rw [stO] at hq
      exact s_X9_steps_5 u x a ⟨⟨by omega, by omega⟩, fun z => absurd z (by omega), fun _ => inner 6 0 a x (by decide) (by decide) a1 (by omega) x0 x9 (fun y0 y9 => ih (a + 1) _ (by omega) (by omega) y0 y9 hq)⟩
  exact e_X9_steps u (s_X9_steps_0 u (outer 5 1 99 (by decide) (by decide) (by decide) (by decide) h))
theorem m_round {c G : ct} {K : SK} {d : Nat} {Q : ct → Int → Prop} (hM : MT c G) (h : Q c (roF (duG G))) : CI K (d + 5) mX9_round [(2, 108)] c Q := by
  rw [(way_all (fun k _ _ => du_01 hM)).1] at h
  have cv : cvF (duG G) 0 0 = 0 ∨ cvF (duG G) 0 0 = 1 := cvR_01 6 0
  refine e_X9_round (s_X9_round_0 (m_isCovered (d := d + 1) hM ⟨by decide, by decide⟩ ⟨by decide, by decide⟩ ⟨fun z => ?_, fun z => ⟨ir_01 cv, ?_⟩⟩))
  · rw [if_pos z] at h
    exact m_steps hM (Or.inr rfl) (fun a0 a9 => m_steps hM (Or.inl rfl) (fun b0 b9 => m_least (d := d + 3) ⟨by omega, by omega⟩ ⟨by omega, by omega⟩ h))
  · rw [if_neg z] at h; exact h
theorem m_toward {c G : ct} {K : SK} {d : Nat} {Q : ct → Int → Prop} (hM : MT c G) (h : Q c (twF (duG G))) : CI K (d + 5) mX9_toward [(2, 108)] c Q := by
  rw [(way_all (fun k _ _ => du_01 hM)).2] at h
  have cv : cvF (duG G) 0 0 = 0 ∨ cvF (duG G) 0 0 = 1 := cvR_01 6 0
  refine e_X9_toward (s_X9_toward_0 (m_isCovered (d := d + 1) hM ⟨by decide, by decide⟩ ⟨by decide, by decide⟩ ⟨fun z => ?_, fun z => ⟨ir_01 cv, ?_⟩⟩))
  · rw [if_pos z] at h
    refine m_steps hM (Or.inr rfl) (fun a0 a9 => m_steps hM (Or.inl rfl) (fun b0 b9 => ⟨⟨⟨by omega, by omega⟩, ⟨by omega, by omega⟩⟩, fun w => ?_, fun w => ?_⟩))
    · rw [if_pos w] at h; exact h
    · rw [if_neg w] at h; exact h
  · rw [if_neg z] at h; exact h
