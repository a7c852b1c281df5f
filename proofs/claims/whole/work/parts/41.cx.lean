/-! CONTRACTS: placings -/
theorem wsR_or {f : Int → Int} {s : Int} : ∀ (n : Nat) (i : Int), wsR f s n i = -5 ∨ (i ≤ wsR f s n i ∧ wsR f s n i < i + n ∧ f (wsR f s n i) = s) := by
  intro n
  induction n with
  | zero => intro i; exact Or.inl rfl
  | succ n ih =>
    intro i
    rw [wsR]
    by_cases e : f i = s
    · rw [if_pos e]; exact Or.inr ⟨by omega, by omega, e⟩
    · rw [if_neg e]
      rcases ih (i + 1) with q | ⟨q1, q2, q3⟩
      · exact Or.inl q
      · exact Or.inr ⟨by omega, by omega, q3⟩
theorem wsR_none {f : Int → Int} {s : Int} : ∀ (n : Nat) (i : Int), 0 ≤ i → wsR f s n i < 0 → ∀ j, i ≤ j → j < i + n → f j ≠ s := by
  intro n
  induction n with
  | zero => intro i _ _ j a b; omega
  | succ n ih =>
    intro i h0 h j a b
    rw [wsR] at h
    by_cases e : f i = s
    · rw [if_pos e] at h; omega
    · rw [if_neg e] at h
      by_cases q : j = i
      · rw [q]; exact e
      · exact ih (i + 1) (by omega) h j (by omega) (by omega)
def updA (A : Int → Int) (g s : Int) : Int → Int := fun p => if p = g then s else A p
/-- who of the first g sits on s; -1: nobody -/
def stA (A : Int → Int) (g s : Int) : Int := if wsR A s g.toNat 0 < 0 then -1 else wsR A s g.toNat 0
theorem stA_hit {A : Int → Int} {g p : Int} (hp : 0 ≤ p ∧ p < g) (hi : ∀ p q, 0 ≤ p → p < q → q < g → A p ≠ A q) : stA A g (A p) = p := by
  have : wsR A (A p) g.toNat 0 = p := wsR_hit rfl _ _ hp.1 (by omega) (fun j j1 j2 j3 => by
    by_cases a : j < p
    · exact absurd j3 (hi j p j1 a hp.2)
    · by_cases b : p < j
      · exact absurd j3.symm (hi p j hp.1 b (by omega))
      · omega)
  unfold stA; rw [this, if_neg (by omega)]
theorem stA_sit {A : Int → Int} {g s : Int} (h0 : 0 ≤ g) (h : 0 ≤ stA A g s) : stA A g s < g ∧ A (stA A g s) = s := by
  unfold stA at h ⊢
  by_cases z : wsR A s g.toNat 0 < 0
  · rw [if_pos z] at h; omega
  · rw [if_neg z]
    rcases wsR_or (f := A) (s := s) g.toNat 0 with q | ⟨q1, q2, q3⟩
    · omega
    · exact ⟨by omega, q3⟩
theorem stA_r {A : Int → Int} {g s : Int} (hg : 0 ≤ g ∧ g ≤ 6) : -1 ≤ stA A g s ∧ stA A g s < 6 := by
  unfold stA
  split
  · omega
  · rcases wsR_or (f := A) (s := s) g.toNat 0 with q | ⟨q1, q2, q3⟩ <;> omega
theorem stA_no {A : Int → Int} {g s : Int} (h : stA A g s < 0) : ∀ j, 0 ≤ j → j < g → A j ≠ s := by
  intro j a b
  refine wsR_none g.toNat 0 (by decide) ?_ j a (by omega)
  unfold stA at h
  by_cases z : wsR A s g.toNat 0 < 0
  · exact z
  · rw [if_neg z] at h; exact h
theorem stA_free {A : Int → Int} {g s : Int} (h : ∀ j, 0 ≤ j → j < g → A j ≠ s) : stA A g s = -1 := by
  have : wsR A s g.toNat 0 = -5 := wsR_no _ _ (fun j a b => h j a (by omega))
  unfold stA; rw [this]; rfl
/-- the trial table while the first g are placed by A -/
def PT (cs c : ct) (A : Int → Int) (g : Int) : Prop := (∀ k, k ≠ 62 → k ≠ 67 → k ≠ 70 → k ≠ 71 → ∀ j, c k j = cs k j) ∧ (∀ p, 0 ≤ p → p < 6 → 0 ≤ c 62 p ∧ c 62 p < 6) ∧ (∀ p, 0 ≤ p → p < g → c 62 p = A p) ∧ (∀ s, 0 ≤ s → s < 6 → c 67 s = stA A g s) ∧ ∀ p q, 0 ≤ p → p < q → q < g → A p ≠ A q
def plG (N : ct) (A : Int → Int) : ct := fun k j => if k = 3 then A j else N k j
theorem PT_RT {H : hf} {cs c N : ct} {A : Int → Int} (hs : RT H cs 59 N) (hP : PT cs c A (N 0 10)) : RT H c 59 (plG N A) := by
  obtain ⟨⟨hT, hW, hS, hB⟩, hTS, ⟨e10, e11, e12, e13, e14, e15⟩, hH, hE, hU⟩ := hs
  obtain ⟨ho, h62, hA, h67, hi⟩ := hP
  have hn := hT.1
  have h13 := hT.2.2.2.1
  have hh : ∀ k, cs 59 13 ≤ k → k ≤ cs 59 13 + 3 → ∀ j, c k j = cs k j := fun k a b j => ho k (by unfold isHou at h13; omega) (by unfold isHou at h13; omega) (by unfold isHou at h13; omega) (by unfold isHou at h13; omega) j
  have r0 : ∀ j, c 59 j = cs 59 j := ho _ (by decide) (by decide) (by decide) (by decide)
  have r1 : ∀ j, c (59 + 1) j = cs (59 + 1) j := ho _ (by decide) (by decide) (by decide) (by decide)
  have r2 : ∀ j, c (59 + 2) j = cs (59 + 2) j := ho _ (by decide) (by decide) (by decide) (by decide)
  have r4 : ∀ j, c (59 + 4) j = cs (59 + 4) j := ho _ (by decide) (by decide) (by decide) (by decide)
  have r5 : ∀ j, c (59 + 5) j = cs (59 + 5) j := ho _ (by decide) (by decide) (by decide) (by decide)
  have r6 : ∀ j, c (59 + 6) j = cs (59 + 6) j := ho _ (by decide) (by decide) (by decide) (by decide)
  have r7 : ∀ j, c (59 + 7) j = cs (59 + 7) j := ho _ (by decide) (by decide) (by decide) (by decide)
  have r9 : ∀ j, c (59 + 9) j = cs (59 + 9) j := ho _ (by decide) (by decide) (by decide) (by decide)
  have t3 : ∀ p, 0 ≤ p → p < 6 → 0 ≤ c (59 + 3) p ∧ c (59 + 3) p < 6 := h62
  have a3 : ∀ p, 0 ≤ p → p < N 0 10 → c (59 + 3) p = A p := hA
  have t8 : ∀ s, 0 ≤ s → s < 6 → c (59 + 8) s = stA A (N 0 10) s := h67
  have hTS' : TS c 59 := by
    refine ⟨fun p g1 g2 => ?_, fun q g1 g2 g3 => ?_⟩
    · rw [r0, e10] at g2
      have := t3 p g1 (by omega)
      rw [a3 p g1 g2] at this ⊢
      rw [t8 _ this.1 this.2, stA_hit ⟨g1, g2⟩ hi]
    · rw [t8 q g1 g2] at g3 ⊢
      obtain ⟨w1, w2⟩ := stA_sit (by omega) g3
      rw [r0, e10, a3 _ g3 w1]
      exact ⟨w1, w2⟩
  refine ⟨⟨?_, by rw [r0]; exact WFH_congr hW hh, ts_SIT hTS' (by rw [r0]; omega), ?_⟩, hTS', by simp only [r0]; exact ⟨e10, e11, e12, e13, e14, e15⟩, ?_, ?_, ?_⟩
  · obtain ⟨h1, h2, h3, h4, h5, h6, h7⟩ := hT
    refine ⟨by rw [r0]; exact h1, by rw [r0]; exact h2, by rw [r0]; exact h3, by rw [r0]; exact h4, fun p g1 g2 => ?_, fun i g1 g2 => by rw [r7]; exact h6 i g1 g2, fun i g1 g2 => by rw [r9]; exact h7 i g1 g2⟩
    have hp := h5 p g1 g2
    rw [r1, r2, r4, r5, r6]
    exact ⟨hp.1, hp.2.1, t3 p g1 g2, hp.2.2.2.1, hp.2.2.2.2.1, hp.2.2.2.2.2.1, by rw [t8 p g1 g2]; exact stA_r ⟨by omega, by omega⟩⟩
  · intro p q g1 g2 g3 g4
    rw [r0] at g2 g4
    rw [r9, lkA_same hW hh (r0 _) (r0 _) ⟨r1 _, r1 _⟩ (r2 _)]
    exact hB p q g1 g2 g3 g4
  · rw [e13] at hh; exact HR_congr hH hh
  · intro p g1 g2
    obtain ⟨e, e7⟩ := hE p g1 g2
    rw [r1, r2, r4, r5, r6]
    refine ⟨⟨e.1, e.2.1, a3 p g1 g2, e.2.2.2⟩, fun i i1 i2 => by rw [r7]; exact e7 i i1 i2⟩
  · simp only [r0, r4]; exact hU
/-- the best so far -/
def PB (c B : ct) (n pe : Int) : Prop := (c 70 2 = B 0 2 ∧ ir (B 0 2)) ∧ (c 70 3 = B 0 3 ∧ ir (B 0 3)) ∧ c 70 4 = pe ∧ (c 70 5 = B 0 5 ∧ (B 0 5 = 0 ∨ B 0 5 = 1)) ∧ ∀ p, B 0 5 = 0 → 0 ≤ p → p < n → c 71 p = B 1 p
def wgB (B : ct) (A : Int → Int) (f l : Int) : ct := if B 0 5 = 1 ∨ l < B 0 3 ∨ (l = B 0 3 ∧ ¬ f ≤ B 0 2) then (fun k j => if k = 0 then (if j = 2 then f else if j = 3 then l else 0) else A j) else B
theorem k_weigh {K : SK} {d : Nat} {cs c B : ct} {Q : ct → Prop} {A : Int → Int} {n pe f l : Int} (hn : n ≤ 6) (hP : PT cs c A n) (hB : PB c B n pe) (hf : ir f) (hl : ir l) (h : ∀ c', (∀ k, k ≠ 70 → k ≠ 71 → ∀ j, c' k j = c k j) → PT cs c' A n → PB c' (wgB B A f l) n pe → Q c') : CV K (d + 1) mX3_weigh [(2, 70), (0, f), (0, l)] c Q := by
  have hP' := hP
  obtain ⟨⟨b2, i2⟩, ⟨b3, i3⟩, b4, ⟨b5, i5⟩, b7⟩ := hB
  have yes : (B 0 5 = 1 ∨ l < B 0 3 ∨ (l = B 0 3 ∧ ¬ f ≤ B 0 2)) → WV K (d + 1) mX3_weigh 41 [(2, 70), (0, f), (0, l), (9, 0)] [] c Q := by
    intro hy
    refine s_X3_weigh_41 f l (fun c1 e1 c2 e2 c3 e3 c4 e4 => ?_)
    have n3 : ∀ k, k ≠ 70 → ∀ j, c3 k j = c k j := fun k a j => by subst e3; rw [up2_ne1 a]; subst e2; rw [up2_ne1 a]; subst e1; exact up2_ne1 a
    have z5 : c3 70 5 = 0 := by subst e3; rw [up2_ne2 (by decide)]; subst e2; rw [up2_ne2 (by decide)]; subst e1; exact up2_self
    have z2 : c3 70 2 = f := by subst e3; rw [up2_ne2 (by decide)]; subst e2; exact up2_self
    have z3 : c3 70 3 = l := by subst e3; exact up2_self
    have z4 : c3 70 4 = c 70 4 := by subst e3; rw [up2_ne2 (by decide)]; subst e2; rw [up2_ne2 (by decide)]; subst e1; exact up2_ne2 (by decide)
    have n4 : ∀ k, k ≠ 71 → ∀ j, c4 k j = c3 k j := fun k a j => by subst e4; exact upRow_ne a
    have z7 : ∀ p, 0 ≤ p → p < 6 → c4 71 p = c 62 p := fun p p1 p2 => by subst e4; rw [upRow_self, cpy00 ⟨p1, p2⟩, n3 62 (by decide)]
    have nn : ∀ k, k ≠ 70 → k ≠ 71 → ∀ j, c4 k j = c k j := fun k a b j => by rw [n4 k b, n3 k a]
    obtain ⟨p1, p2, p3, p4, p5⟩ := hP'
    refine h c4 nn ⟨fun k a1 a2 a3 a4 j => by rw [nn k a3 a4]; exact p1 k a1 a2 a3 a4 j, fun p a b => by rw [nn 62 (by decide) (by decide)]; exact p2 p a b, fun p a b => by rw [nn 62 (by decide) (by decide)]; exact p3 p a b, fun p a b => by rw [nn 67 (by decide) (by decide)]; exact p4 p a b, p5⟩ ?_
    unfold wgB
    rw [if_pos hy]
    exact ⟨⟨by rw [n4 70 (by decide), z2]; rfl, hf⟩, ⟨by rw [n4 70 (by decide), z3]; rfl, hl⟩, by rw [n4 70 (by decide), z4]; exact b4, ⟨by rw [n4 70 (by decide), z5]; rfl, Or.inl rfl⟩, fun p _ a b => by rw [z7 p a (by omega), p3 p a b]; rfl⟩
  have no : ¬ (B 0 5 = 1 ∨ l < B 0 3 ∨ (l = B 0 3 ∧ ¬ f ≤ B 0 2)) → Q c := by
    intro hy
    refine h c (fun _ _ _ _ => rfl) hP' ?_
    unfold wgB
    rw [if_neg hy]
    exact ⟨⟨b2, i2⟩, ⟨b3, i3⟩, b4, ⟨b5, i5⟩, b7⟩
  refine e_X3_weigh f l (s_X3_weigh_0 f l ?_)
  rw [b2, b3, b5]
  have ib := ir_01 i5
  refine ⟨⟨hl, i3⟩, fun z => ⟨fun q => yes (by omega), fun q => ⟨ib, yes (by omega)⟩⟩, fun z => ⟨fun z2 => ⟨⟨hf, i2⟩, fun z3 => ⟨fun q => no (by omega), fun q => ⟨ib, yes (by omega)⟩⟩, fun z3 => ⟨fun q => yes (by omega), fun q => ⟨ib, yes (by omega)⟩⟩⟩, fun z2 => ⟨⟨hl, i3⟩, fun q => no (by omega), fun q => ⟨ib, yes (by omega)⟩⟩⟩⟩
def sLo (F : Int → ct → ct) : Nat → Int → ct → ct
  | 0, _, B => B
  | n + 1, s, B => sLo F n (s + 1) (F s B)
/-- all placings of the guests from g on, one after the other -/
def plR (H : hf) (N : ct) (pe : Int) : Nat → Int → (Int → Int) → ct → ct
  | 0, _, A, B => wgB B A (allG H (plG N A) (N 0 12)) (if pe = 0 then 0 else clG H (plG N A))
  | m + 1, g, A, B => sLo (fun s B' => if stA A g s < 0 then plR H N pe m (g + 1) (updA A g s) B' else B') 6 0 B
