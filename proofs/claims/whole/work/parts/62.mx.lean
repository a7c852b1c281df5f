/-! CONTRACTS: the reference's clashes; pairs told by seats and by guests -/
def DS (G : ct) : Prop := ∀ p q, 0 ≤ p → p < G 0 10 → 0 ≤ q → q < G 0 10 → G 3 p = G 3 q → p = q
def cmG (G : ct) (p : Int) : Prop := G 6 p = 0 ∧ ¬ G 1 p = 4
def ckG (H : hf) (G : ct) (p q : Int) : Int := if lkG H G (G 0 12) p q < 0 ∨ lkG H G (G 0 12) q p < 0 then 1 else 0
theorem ck_sym {H : hf} {G : ct} {p q : Int} : ckG H G p q = ckG H G q p := by
  unfold ckG
  by_cases a : lkG H G (G 0 12) p q < 0
  · rw [if_pos (Or.inl a), if_pos (Or.inr a)]
  · by_cases b : lkG H G (G 0 12) q p < 0
    · rw [if_pos (Or.inr b), if_pos (Or.inl b)]
    · rw [if_neg (by omega), if_neg (by omega)]
theorem nbS_of {G : ct} (hD : DS G) {s p : Int} (hp : 0 ≤ p ∧ p < G 0 10) (h3 : G 3 p = s) : whG G s = p ∧ (nbS G s = if G 6 p = 0 then (if G 1 p = 4 then -1 else p) else -1) := by
  have e : whG G s = p := wsR_hit h3 (G 0 10).toNat 0 hp.1 (by omega) (fun j a b q => hD j p a (by omega) hp.1 hp.2 (by rw [q, h3]))
  refine ⟨e, ?_⟩
  unfold nbS
  rw [e, if_neg (by omega)]
theorem nbS_in {G : ct} (hD : DS G) {s : Int} (h : 0 ≤ nbS G s) : (0 ≤ nbS G s ∧ nbS G s < G 0 10) ∧ G 3 (nbS G s) = s ∧ G 6 (nbS G s) = 0 ∧ ¬ G 1 (nbS G s) = 4 := by
  rcases wsR_or (f := G 3) (s := s) (G 0 10).toNat 0 with e | ⟨e1, e2, e3⟩
  · have w : whG G s = -5 := e
    unfold nbS at h
    rw [w, if_pos (by decide)] at h
    omega
  · have w0 : 0 ≤ whG G s := e1
    have w1 : whG G s < G 0 10 := by have : whG G s < 0 + ((G 0 10).toNat : Int) := e2; omega
    have w3 : G 3 (whG G s) = s := e3
    have := (nbS_of hD ⟨w0, w1⟩ w3).2
    by_cases a : G 6 (whG G s) = 0
    · by_cases b : G 1 (whG G s) = 4
      · rw [if_pos a, if_pos b] at this; omega
      · rw [if_pos a, if_neg b] at this
        rw [this]; exact ⟨⟨w0, w1⟩, w3, a, b⟩
    · rw [if_neg a] at this; omega
def prT (H : hf) (G : ct) (p q : Int) : Int := if ((G 6 p = 0 ∧ ¬ G 1 p = 4) ∧ (G 6 q = 0 ∧ ¬ G 1 q = 4)) ∧ G 3 q = aft (G 3 p) then ckG H G p q else 0
def prS (H : hf) (G : ct) (s p q : Int) : Int := if ((G 6 p = 0 ∧ ¬ G 1 p = 4) ∧ (G 6 q = 0 ∧ ¬ G 1 q = 4)) ∧ (G 3 p = s ∧ G 3 q = aft s) then ckG H G p q else 0
theorem cl_pick {H : hf} {G : ct} (hD : DS G) (hn : 0 ≤ G 0 10) (s : Int) : clS H G s = smR (fun p => smR (prS H G s p) (G 0 10).toNat 0) (G 0 10).toNat 0 := by
  have one : ∀ t p, 0 ≤ p → p < G 0 10 → (G 6 p = 0 ∧ ¬ G 1 p = 4) → G 3 p = t → nbS G t = p := fun t p a b hc e => by
    rw [(nbS_of hD ⟨a, b⟩ e).2, if_pos hc.1, if_neg hc.2]
  by_cases a : nbS G s < 0
  · unfold clS
    rw [if_pos (Or.inl a), sm_zero]
    intro p p0 p1
    refine sm_zero _ _ (fun q q0 q1 => ?_)
    unfold prS
    rw [if_neg]
    intro w
    have := one s p p0 (by omega) w.1.1 w.2.1
    omega
  · by_cases b : nbS G (aft s) < 0
    · unfold clS
      rw [if_pos (Or.inr b), sm_zero]
      intro p p0 p1
      refine sm_zero _ _ (fun q q0 q1 => ?_)
      unfold prS
      rw [if_neg]
      intro w
      have := one (aft s) q q0 (by omega) w.1.2 w.2.2
      omega
    · obtain ⟨i1, i2, i3⟩ := nbS_in hD (s := s) (by omega)
      obtain ⟨j1, j2, j3⟩ := nbS_in hD (s := aft s) (by omega)
      rw [sm_pick (w := nbS G s) _ _ i1.1 (by omega), sm_pick (w := nbS G (aft s)) _ _ j1.1 (by omega)]
      · unfold clS prS ckG
        rw [if_neg (by omega)]
        exact (if_pos ⟨⟨i3, j3⟩, i2, j2⟩).symm
      · intro q q0 q1 ne
        unfold prS
        rw [if_neg]
        intro w
        exact ne (one (aft s) q q0 (by omega) w.1.2 w.2.2).symm
      · intro p p0 p1 ne
        refine sm_zero _ _ (fun q q0 q1 => ?_)
        unfold prS
        rw [if_neg]
        intro w
        exact ne (one s p p0 (by omega) w.1.1 w.2.1).symm
theorem sm_swap {f : Int → Int → Int} {n : Nat} {j : Int} : ∀ (m : Nat) (i : Int), smR (fun s => smR (f s) n j) m i = smR (fun p => smR (fun s => f s p) m i) n j := by
  intro m
  induction m with
  | zero => intro i; exact (sm_zero _ _ (fun _ _ _ => rfl)).symm
  | succ m ih =>
    intro i
    rw [smR, ih (i + 1), ← sm_add]
    exact smR_congr _ _ (fun p _ _ => rfl)
/-- each pair once -/
def trR (h : Int → Int → Int) : Nat → Int → Int
  | 0, _ => 0
  | m + 1, i => smR (fun q => h i q + h q i) m (i + 1) + trR h m (i + 1)
theorem tri {h : Int → Int → Int} (h0 : ∀ p, h p p = 0) : ∀ (m : Nat) (i : Int), smR (fun p => smR (h p) m i) m i = trR h m i := by
  intro m
  induction m with
  | zero => intro i; rfl
  | succ m ih =>
    intro i
    have e : smR (fun p => smR (h p) (m + 1) i) m (i + 1) = smR (fun p => h p i) m (i + 1) + smR (fun p => smR (h p) m (i + 1)) m (i + 1) := by
      rw [← sm_add]
      exact smR_congr _ _ (fun p _ _ => rfl)
    have e2 : smR (fun q => h i q + h q i) m (i + 1) = smR (h i) m (i + 1) + smR (fun p => h p i) m (i + 1) := sm_add _ _
    rw [trR, smR, e, ih (i + 1), e2]
    show (h i i + smR (h i) m (i + 1)) + _ = _
    rw [h0 i]
    omega
theorem clG_tri {H : hf} {G : ct} (hD : DS G) (hn : 0 ≤ G 0 10) (h3 : ∀ p, 0 ≤ p → p < G 0 10 → 0 ≤ G 3 p ∧ G 3 p < 6) : clG H G = trR (prT H G) (G 0 10).toNat 0 := by
  have e1 : clG H G = smR (fun s => smR (fun p => smR (prS H G s p) (G 0 10).toNat 0) (G 0 10).toNat 0) 6 0 := by
    unfold clG
    exact smR_congr _ _ (fun s _ _ => cl_pick hD hn s)
  have e2 : smR (fun s => smR (fun p => smR (prS H G s p) (G 0 10).toNat 0) (G 0 10).toNat 0) 6 0 = smR (fun p => smR (fun s => smR (prS H G s p) (G 0 10).toNat 0) 6 0) (G 0 10).toNat 0 := sm_swap (f := fun s p => smR (prS H G s p) (G 0 10).toNat 0) _ _
  rw [e1, e2]
  rw [← tri (h := prT H G)]
  · refine smR_congr _ _ (fun p p0 p1 => ?_)
    rw [sm_swap (f := fun s q => prS H G s p q)]
    refine smR_congr _ _ (fun q q0 q1 => ?_)
    have h3p := h3 p p0 (by omega)
    show smR (fun s => prS H G s p q) 6 0 = prT H G p q
    rw [sm_pick (w := G 3 p) 6 0 h3p.1 (by omega)]
    · unfold prS prT
      simp
    · intro s s0 s1 ne
      unfold prS
      rw [if_neg]
      intro w
      exact ne w.2.1.symm
  · intro p
    unfold prT aft
    rw [if_neg]
    intro w
    have := w.2
    split at this <;> omega
theorem bes_x : ∀ a : Nat, a < 6 → ∀ b : Nat, b < 6 → (((a : Int) = aft b ∨ (a : Int) = ahd b) ↔ ((b : Int) = aft a ∨ (a : Int) = aft b)) := by decide
theorem bes_n : ∀ a : Nat, a < 6 → ∀ b : Nat, b < 6 → ¬ ((b : Int) = aft a ∧ (a : Int) = aft b) := by decide
theorem pr_two {H : hf} {G : ct} {p q : Int} (hp : 0 ≤ G 3 p ∧ G 3 p < 6) (hq : 0 ≤ G 3 q ∧ G 3 q < 6) : prT H G p q + prT H G q p = if ((G 6 p = 0 ∧ ¬ G 1 p = 4) ∧ (G 6 q = 0 ∧ ¬ G 1 q = 4)) ∧ (G 3 p = aft (G 3 q) ∨ G 3 p = ahd (G 3 q)) then ckG H G p q else 0 := by
  have k1 := bes_x (G 3 p).toNat (by omega) (G 3 q).toNat (by omega)
  have k2 := bes_n (G 3 p).toNat (by omega) (G 3 q).toNat (by omega)
  rw [show (((G 3 p).toNat : Nat) : Int) = G 3 p by omega, show (((G 3 q).toNat : Nat) : Int) = G 3 q by omega] at k1 k2
  unfold prT
  rw [ck_sym (p := q) (q := p)]
  by_cases c : (G 6 p = 0 ∧ ¬ G 1 p = 4) ∧ (G 6 q = 0 ∧ ¬ G 1 q = 4)
  · by_cases a : G 3 q = aft (G 3 p)
    · rw [if_pos ⟨c, a⟩, if_neg (fun w => k2 ⟨a, w.2⟩), if_pos ⟨c, k1.mpr (Or.inl a)⟩, Int.add_zero]
    · rw [if_neg (fun w => a w.2)]
      by_cases b : G 3 p = aft (G 3 q)
      · rw [if_pos ⟨⟨c.2, c.1⟩, b⟩, if_pos ⟨c, Or.inl b⟩, Int.zero_add]
      · rw [if_neg (fun w => b w.2), if_neg (fun w => (k1.mp w.2).elim a b)]; rfl
  · rw [if_neg (fun w => c w.1), if_neg (fun w => c ⟨w.1.2, w.1.1⟩), if_neg (fun w => c w.1)]; rfl
theorem m_clashesBy {H : hf} {c G : ct} {K : SK} {d : Nat} {Q : ct → Int → Prop} (hM : MT c G) (hD : DS G) (hk : LKD H c G) (h : Q c (clG H G)) : CI K (d + 3) mX9_clashesBy [(2, 108)] c Q := by
  obtain ⟨e0, n0, n6⟩ := hM.1
  have r3 : ∀ p, 0 ≤ p → p < G 0 10 → c 111 p = G 3 p ∧ 0 ≤ G 3 p ∧ G 3 p < 6 := fun p a b => (hM.2.2.2.2.2.2 p a b).2.2.1
  rw [clG_tri hD n0 (fun p a b => (r3 p a b).2)] at h
  have inner : ∀ (n : Nat) (q a p : Int), q = G 0 10 - n → 0 ≤ p → p < q → p < G 0 10 → WI K (d + 3) mX9_clashesBy 4 [(2, 108), (0, a + smR (fun q => prT H G p q + prT H G q p) n q), (0, p + 1), (9, 0)] [] c Q → WI K (d + 3) mX9_clashesBy 16 [(2, 108), (0, a), (0, p), (0, q)] [] c Q := by
    intro n
    induction n with
    | zero =>
      intro q a p hq p0 pq pn hw
      refine s_X9_clashesBy_16 a p q ?_
      rw [e0]
      exact ⟨⟨⟨by omega, by omega⟩, ⟨by omega, by omega⟩⟩, fun _ => by simpa [smR] using hw, fun z => absurd (by omega) z⟩
    | succ n ih =>
      intro q a p hq p0 pq pn hw
      have r3p := r3 p p0 pn
      have r3q := r3 q (by omega) (by omega)
      rw [smR, ← Int.add_assoc, pr_two r3p.2 r3q.2] at hw
      have skip : ¬ (((G 6 p = 0 ∧ ¬ G 1 p = 4) ∧ (G 6 q = 0 ∧ ¬ G 1 q = 4)) ∧ (G 3 p = aft (G 3 q) ∨ G 3 p = ahd (G 3 q))) → WI K (d + 3) mX9_clashesBy 16 [(2, 108), (0, a), (0, p), (0, q + 1)] [] c Q := fun z => by
        rw [if_neg z, Int.add_zero] at hw
        exact ih (q + 1) a p (by omega) p0 (by omega) pn hw
      have l1 := hk p q p0 pn (by omega) (by omega) (by omega)
      have l2 := hk q p (by omega) (by omega) p0 pn (by omega)
      refine s_X9_clashesBy_16 a p q ?_
      rw [e0]
      refine ⟨⟨⟨by omega, by omega⟩, ⟨by omega, by omega⟩⟩, fun z => absurd z (by omega), fun _ => m_isCompany hM ⟨p0, pn⟩ (fun z => ⟨fun _ => skip (fun w => z w.1.1), fun w => absurd rfl w⟩) (fun z1 z2 => ⟨fun w => absurd w one_ne, fun _ => ⟨ir01.2, m_isCompany hM ⟨by omega, by omega⟩ (fun z => ⟨fun _ => skip (fun w => z w.1.2), fun w => absurd rfl w⟩) (fun z3 z4 => ⟨fun w => absurd w one_ne, fun _ => ⟨ir01.2, ⟨by omega, by omega⟩, ⟨by omega, by omega⟩, ?_⟩⟩)⟩⟩)⟩
      rw [r3p.1, r3q.1]
      refine m_isBeside r3p.2 r3q.2 (fun z => ⟨fun _ => skip (fun w => z w.2), fun w => absurd rfl w⟩) (fun z => ⟨fun w => absurd w one_ne, fun _ => ⟨ir01.2, ?_⟩⟩)
      rw [l1.1, l2.1]
      refine ⟨⟨by omega, by omega⟩, ⟨by omega, by omega⟩, fun g => ?_, fun g => ⟨⟨by omega, by omega⟩, ⟨by omega, by omega⟩, fun g2 => ?_, fun g2 => ?_⟩⟩
      · rw [if_pos ⟨⟨⟨z1, z2⟩, ⟨z3, z4⟩⟩, z⟩, show ckG H G p q = 1 from if_pos (Or.inl g)] at hw
        exact ih (q + 1) (a + 1) p (by omega) p0 (by omega) pn hw
      · rw [if_pos ⟨⟨⟨z1, z2⟩, ⟨z3, z4⟩⟩, z⟩, show ckG H G p q = 0 from if_neg (by omega)] at hw
        exact ih (q + 1) (a + 0) p (by omega) p0 (by omega) pn hw
      · rw [if_pos ⟨⟨⟨z1, z2⟩, ⟨z3, z4⟩⟩, z⟩, show ckG H G p q = 1 from if_pos (Or.inr (by omega))] at hw
        exact ih (q + 1) (a + 1) p (by omega) p0 (by omega) pn hw
  have outer : ∀ (n : Nat) (p a : Int), p = G 0 10 - n → 0 ≤ p → Q c (a + trR (prT H G) n p) → WI K (d + 3) mX9_clashesBy 4 [(2, 108), (0, a), (0, p), (9, 0)] [] c Q := by
    intro n
    induction n with
    | zero =>
      intro p a hp p0 hq
      refine s_X9_clashesBy_4 a p ?_
      rw [e0]
      exact ⟨⟨⟨by omega, by omega⟩, ⟨by omega, by omega⟩⟩, fun _ => by simpa [trR] using hq, fun z => absurd (by omega) z⟩
    | succ n ih =>
      intro p a hp p0 hq
      rw [trR, ← Int.add_assoc] at hq
      refine s_X9_clashesBy_4 a p ?_
      rw [e0]
      exact ⟨⟨⟨by omega, by omega⟩, ⟨by omega, by omega⟩⟩, fun z => absurd z (by omega), fun _ => inner n (p + 1) a p (by omega) p0 (by omega) (by omega) (ih (p + 1) _ (by omega) (by omega) hq)⟩
  exact e_X9_clashesBy (s_X9_clashesBy_0 (outer (G 0 10).toNat 0 0 (by omega) (by decide) (by rw [Int.zero_add]; exact h)))
theorem m_clashes {H : hf} {c G : ct} {K : SK} {d : Nat} {Q : ct → Int → Prop} (hK : MK H c G) (hD : DS G) (h : ∀ c', offL c c' → MK H c' G → Q c' (clG H G)) : CI K (d + 5) mX9_clashes [(2, 108)] c Q :=
  e_X9_clashes (s_X9_clashes_0 (m_layLikes hK (fun c1 h1 k1 l1 => m_clashesBy (d := d + 1) k1.1 hD l1 (h c1 h1 k1))))
