/-! CONTRACTS: rows of three, whole evenings -/
def RW (c : ct) (t : Int) (nt : Nat) (G : ct) (b : Int) : Prop := c t 3 = nt ∧ c t 4 = G 0 b ∧ (0 ≤ G 0 b ∧ G 0 b ≤ nt) ∧ (∀ i, 0 ≤ i → i < G 0 b → c (t + 1) i = G (b + 1) i ∧ c (t + 2) i = G (b + 2) i ∧ c (t + 3) i = G (b + 3) i)
def offR (c c' : ct) (t : Int) : Prop := ∀ k, (k < t ∨ t + 3 < k) → ∀ j, c' k j = c k j
theorem row_nt {t : Int} {nt : Nat} (h : isRow t nt) : 5 ≤ nt ∧ nt ≤ 10 := by unfold isRow at h; omega
theorem RW_congr {c c' G : ct} {t b : Int} {nt : Nat} (h : RW c t nt G b) (hc : ∀ k, t ≤ k → k ≤ t + 3 → ∀ j, c' k j = c k j) : RW c' t nt G b := by
  obtain ⟨h1, h2, h3, h4⟩ := h
  refine ⟨by rw [hc t (by omega) (by omega)]; exact h1, by rw [hc t (by omega) (by omega)]; exact h2, h3, fun i g1 g2 => ?_⟩
  rw [hc (t + 1) (by omega) (by omega), hc (t + 2) (by omega) (by omega), hc (t + 3) (by omega) (by omega)]
  exact h4 i g1 g2
def szG (G : ct) (b n : Int) : ct := fun k j => if k = 0 ∧ j = b then n else G k j
theorem g_empty {G : ct} {K : SK} {d : Nat} {c : ct} {Q : ct → Int → Prop} {t b : Int} {nt : Nat} (ht : isRow t nt) (hR : RW c t nt G b) (h : ∀ c', offR c c' t → RW c' t nt (szG G b 0) b → Q c' 0) : CI K (d + 1) mX5_empty [(2, t)] c Q := by
  refine e_X5_empty t nt ht (s_X5_empty_0 t nt ht (fun c1 e1 => ?_))
  obtain ⟨h1, h2, h3, h4⟩ := hR
  have hz : szG G b 0 0 b = 0 := by simp [szG]
  have e : c1 t 4 = 0 := by subst e1; exact up2_self
  rw [e]
  refine h c1 (fun k a j => by subst e1; exact up2_ne1 (by omega)) ⟨by subst e1; rw [up2_ne2 (by decide)]; exact h1, by rw [e, hz], by rw [hz]; omega, fun i g1 g2 => ?_⟩
  rw [hz] at g2; omega
def adG (G : ct) (b x y z : Int) : ct := fun k j => if k = 0 ∧ j = b then G 0 b + 1 else if j = G 0 b then (if k = b + 1 then x else if k = b + 2 then y else if k = b + 3 then z else G k j) else G k j
theorem g_add {G : ct} {K : SK} {d : Nat} {c : ct} {Q : ct → Int → Prop} {t b x y z : Int} {nt : Nat} (ht : isRow t nt) (hb : 1 ≤ b) (hR : RW c t nt G b) (h0 : G 0 b = nt → Q c (-4)) (h : ∀ c', G 0 b < nt → offR c c' t → RW c' t nt (adG G b x y z) b → Q c' (G 0 b + 1)) : CI K (d + 1) mX5_add [(2, t), (0, x), (0, y), (0, z)] c Q := by
  have hnt := row_nt ht
  obtain ⟨h1, h2, h3, h4⟩ := hR
  refine e_X5_add t nt ht _ _ _ (s_X5_add_0 t nt ht _ _ _ ?_)
  rw [h1, h2]
  refine ⟨⟨⟨by omega, by omega⟩, ⟨by omega, by omega⟩⟩, fun lt => ⟨⟨by omega, by omega⟩, fun c3 e3 => ?_⟩, fun z => h0 (by omega)⟩
  have n3 : ∀ k, k ≠ t + 1 → ∀ j, c3 k j = c k j := fun k a j => by subst e3; exact up2_ne1 a
  have r1 : ∀ j, c3 (t + 1) j = if j = G 0 b then x else c (t + 1) j := fun j => by subst e3; simp only [up2, true_and]
  clear e3
  rw [n3 t (by omega), h2]
  refine ⟨⟨by omega, by omega⟩, fun c5 e5 => ?_⟩
  have n5 : ∀ k, k ≠ t + 2 → ∀ j, c5 k j = c3 k j := fun k a j => by subst e5; exact up2_ne1 a
  have r2 : ∀ j, c5 (t + 2) j = if j = G 0 b then y else c (t + 2) j := fun j => by subst e5; simp only [up2, true_and]; rw [n3 _ (by omega)]
  clear e5
  rw [n5 t (by omega), n3 t (by omega), h2]
  refine ⟨⟨by omega, by omega⟩, fun c7 e7 c9 e9 => ?_⟩
  have n7 : ∀ k, k ≠ t + 3 → ∀ j, c7 k j = c5 k j := fun k a j => by subst e7; exact up2_ne1 a
  have r3 : ∀ j, c7 (t + 3) j = if j = G 0 b then z else c (t + 3) j := fun j => by subst e7; simp only [up2, true_and]; rw [n5 _ (by omega), n3 _ (by omega)]
  clear e7
  rw [n7 t (by omega), n5 t (by omega), n3 t (by omega), h2] at e9
  have n9 : ∀ k, k ≠ t → ∀ j, c9 k j = c7 k j := fun k a j => by subst e9; exact up2_ne1 a
  have e4 : c9 t 4 = G 0 b + 1 := by subst e9; exact up2_self
  have e3 : c9 t 3 = nt := by subst e9; rw [up2_ne2 (by decide), n7 t (by omega), n5 t (by omega), n3 t (by omega)]; exact h1
  have o : ∀ k, k ≠ t → k ≠ t + 1 → k ≠ t + 2 → k ≠ t + 3 → ∀ j, c9 k j = c k j := fun k a a1 a2 a3 j => by rw [n9 k a, n7 k a3, n5 k a2, n3 k a1]
  rw [e4]
  have hz : adG G b x y z 0 b = G 0 b + 1 := by simp [adG]
  refine h c9 lt (fun k a j => o k (by omega) (by omega) (by omega) (by omega) j) ⟨e3, by rw [e4, hz], by rw [hz]; omega, fun i g1 g2 => ?_⟩
  rw [hz] at g2
  rw [n9 (t + 1) (by omega), n9 (t + 2) (by omega), n9 (t + 3) (by omega), n7 (t + 1) (by omega), n7 (t + 2) (by omega), n5 (t + 1) (by omega), r1, r2, r3]
  have k1 : adG G b x y z (b + 1) i = if i = G 0 b then x else G (b + 1) i := by
    unfold adG; rw [if_neg (show ¬ (b + 1 = 0 ∧ i = b) by omega), if_pos (show b + 1 = b + 1 from rfl)]
  have k2 : adG G b x y z (b + 2) i = if i = G 0 b then y else G (b + 2) i := by
    unfold adG; rw [if_neg (show ¬ (b + 2 = 0 ∧ i = b) by omega), if_neg (show ¬ (b + 2 = b + 1) by omega), if_pos (show b + 2 = b + 2 from rfl)]
  have k3 : adG G b x y z (b + 3) i = if i = G 0 b then z else G (b + 3) i := by
    unfold adG; rw [if_neg (show ¬ (b + 3 = 0 ∧ i = b) by omega), if_neg (show ¬ (b + 3 = b + 1) by omega), if_neg (show ¬ (b + 3 = b + 2) by omega), if_pos (show b + 3 = b + 3 from rfl)]
  rw [k1, k2, k3]
  by_cases a : i = G 0 b
  · simp only [if_pos a]; exact ⟨trivial, trivial, trivial⟩
  · simp only [if_neg a]; exact h4 i g1 (by omega)
def gtR (f : Int → Int) : Nat → Int → Int → Int
  | 0, _, a => a
  | n + 1, i, a => gtR f n (i + 1) (if a < f i then f i else a)
theorem gtR_congr {f g : Int → Int} : ∀ (n : Nat) (i a : Int), (∀ j, i ≤ j → j < i + n → f j = g j) → gtR f n i a = gtR g n i a := by
  intro n
  induction n with
  | zero => intro i a _; rfl
  | succ n ih => intro i a h; rw [gtR, gtR, h i (by omega) (by omega)]; exact ih _ _ (fun j g1 g2 => h j (by omega) (by omega))
theorem g_greatestThird {G : ct} {K : SK} {d : Nat} {c : ct} {Q : ct → Int → Prop} {t b : Int} {nt : Nat} (ht : isRow t nt) (hR : RW c t nt G b) (hv : ∀ i, 0 ≤ i → i < G 0 b → 0 ≤ G (b + 3) i ∧ G (b + 3) i ≤ 20) (h : Q c (gtR (G (b + 3)) (G 0 b).toNat 0 (-1))) : CI K (d + 1) mX5_greatestThird [(2, t)] c Q := by
  have hnt := row_nt ht
  obtain ⟨h1, h2, h3, h4⟩ := hR
  have loop : ∀ (n : Nat) (i a : Int), i = G 0 b - n → 0 ≤ i → -1 ≤ a ∧ a ≤ 20 → Q c (gtR (G (b + 3)) n i a) → WI K (d + 1) mX5_greatestThird 4 [(2, t), (0, a), (0, i)] [] c Q := by
    intro n
    induction n with
    | zero =>
      intro i a hi h0 ha hq
      refine s_X5_greatestThird_4 t nt ht _ _ ?_
      rw [h2]
      exact ⟨⟨⟨by omega, by omega⟩, ⟨by omega, by omega⟩⟩, fun _ => hq, fun z => absurd (by omega) z⟩
    | succ n ih =>
      intro i a hi h0 ha hq
      refine s_X5_greatestThird_4 t nt ht _ _ ?_
      have := hv i h0 (by omega)
      rw [h2, (h4 i h0 (by omega)).2.2]
      exact ⟨⟨⟨by omega, by omega⟩, ⟨by omega, by omega⟩⟩, fun z => absurd z (by omega), fun _ => ⟨⟨h0, by omega⟩, ⟨⟨by omega, by omega⟩, ⟨by omega, by omega⟩⟩, ih _ _ (by omega) (by omega) (by split <;> omega) hq⟩⟩
  exact e_X5_greatestThird t nt ht (s_X5_greatestThird_0 t nt ht (loop (G 0 b).toNat 0 (-1) (by omega) (by omega) ⟨by decide, by decide⟩ h))
theorem g_rowsCopy {G G0 : ct} {K : SK} {d : Nat} {c : ct} {Q : ct → Prop} {t a b : Int} {nt : Nat} (ht : isRow t nt) (ha : isRow a nt) (far : t + 3 < a ∨ a + 3 < t) (hR : RW c a nt G b) (hT : RW c t nt G0 b) (h : ∀ c', offR c c' t → RW c' t nt G b → Q c') : CV K (d + 1) mX5_copyFrom [(2, t), (2, a)] c Q := by
  have hnt := row_nt ht
  obtain ⟨h1, h2, h3, h4⟩ := hR
  have t3 := hT.1
  refine e_X5_copyFrom t nt ht a nt ha (s_X5_copyFrom_0 t nt ht a nt ha (fun c1 e1 => ?_))
  have n1 : ∀ k, k ≠ t → ∀ j, c1 k j = c k j := fun k q j => by subst e1; exact up2_ne1 q
  have z4 : c1 t 4 = G 0 b := by subst e1; rw [up2_self]; exact h2
  have z3 : c1 t 3 = nt := by subst e1; rw [up2_ne2 (by decide)]; exact t3
  clear e1
  rw [z3]
  refine ⟨⟨by omega, by omega, by omega⟩, fun c2 e2 => ?_⟩
  have n2 : ∀ k, k ≠ t + 1 → ∀ j, c2 k j = c1 k j := fun k q j => by subst e2; exact upRow_ne q
  have r2 : ∀ i : Int, 0 ≤ i → i < nt → c2 (t + 1) i = c (a + 1) i := fun i g1 g2 => by subst e2; rw [upRow_self, cpy00 ⟨g1, g2⟩]; exact n1 _ (by omega) i
  clear e2
  rw [n2 t (by omega), z3]
  refine ⟨⟨by omega, by omega, by omega⟩, fun c4 e4 => ?_⟩
  have n4 : ∀ k, k ≠ t + 2 → ∀ j, c4 k j = c2 k j := fun k q j => by subst e4; exact upRow_ne q
  have r4 : ∀ i : Int, 0 ≤ i → i < nt → c4 (t + 2) i = c (a + 2) i := fun i g1 g2 => by subst e4; rw [upRow_self, cpy00 ⟨g1, g2⟩, n2 _ (by omega)]; exact n1 _ (by omega) i
  clear e4
  rw [n4 t (by omega), n2 t (by omega), z3]
  refine ⟨⟨by omega, by omega, by omega⟩, fun c6 e6 => ?_⟩
  have n6 : ∀ k, k ≠ t + 3 → ∀ j, c6 k j = c4 k j := fun k q j => by subst e6; exact upRow_ne q
  have r6 : ∀ i : Int, 0 ≤ i → i < nt → c6 (t + 3) i = c (a + 3) i := fun i g1 g2 => by subst e6; rw [upRow_self, cpy00 ⟨g1, g2⟩, n4 _ (by omega), n2 _ (by omega)]; exact n1 _ (by omega) i
  clear e6
  refine h c6 (fun k q j => by rw [n6 k (by omega), n4 k (by omega), n2 k (by omega), n1 k (by omega)]) ⟨?_, ?_, h3, fun i g1 g2 => ?_⟩
  · rw [n6 t (by omega), n4 t (by omega), n2 t (by omega)]; exact z3
  · rw [n6 t (by omega), n4 t (by omega), n2 t (by omega)]; exact z4
  · have := h4 i g1 g2
    rw [n6 (t + 1) (by omega), n6 (t + 2) (by omega), n4 (t + 1) (by omega), r2 i g1 (by omega), r4 i g1 (by omega), r6 i g1 (by omega)]
    exact this
/-- an evening as G tells -/
def EV (H : hf) (c : ct) (e : Int) (G : ct) : Prop := RT H c (e + 13) G ∧ ZB c (e + 13) ∧ RW c (e + 1) 5 G 20 ∧ RW c (e + 5) 10 G 24 ∧ RW c (e + 9) 8 G 28
def offE (c c' : ct) (e : Int) : Prop := ∀ k, (k < e ∨ e + 23 < k) → ∀ j, c' k j = c k j
theorem ZB_congr {c c' : ct} {t : Int} (h : ZB c t) (hc : ∀ k, t ≤ k → k ≤ t + 9 → ∀ j, c' k j = c k j) : ZB c' t := by
  intro p g1 g2
  rw [hc t (by omega) (by omega)] at g1
  rw [hc (t + 4) (by omega) (by omega), hc (t + 5) (by omega) (by omega), hc (t + 6) (by omega) (by omega)]
  obtain ⟨a, b, d, e⟩ := h p g1 g2
  exact ⟨a, b, d, fun i i1 i2 => by rw [hc (t + 7) (by omega) (by omega)]; exact e i i1 i2⟩
theorem ZB_copy {c c' : ct} {t a : Int} (hT : TR c a) (h : ZB c a) (hC : COPY c c' t a) : ZB c' t := by
  intro p g1 g2
  have hn := hT.1
  rw [hC.2.2.1.1] at g1
  obtain ⟨q4, q5, q6, q7⟩ := h p g1 g2
  obtain ⟨-, -, -, r4, r5, r6, -⟩ := hC.2.2.2.1 p (by omega) g2
  refine ⟨by rw [r4]; exact q4, by rw [r5]; exact q5, by rw [r6]; exact q6, fun i i1 i2 => ?_⟩
  rw [hC.2.2.2.2.1 _ (by omega) (by omega)]; exact q7 i i1 i2
theorem g_eveCopy {H : hf} {G G0 : ct} {K : SK} {d : Nat} {c : ct} {Q : ct → Prop} {t a : Int} (ht : isEve t) (ha : isEve a) (hne : t ≠ a) (hR : EV H c a G) (hT : EV H c t G0) (h : ∀ c', offE c c' t → EV H c' t G → EV H c' a G → Q c') : CV K (d + 2) mX1_copyFrom [(2, t), (2, a)] c Q := by
  have far : t + 23 < a ∨ a + 23 < t := by unfold isEve at ht ha; omega
  have tt : isTab (t + 13) := by unfold isEve at ht; unfold isTab; omega
  have ta : isTab (a + 13) := by unfold isEve at ha; unfold isTab; omega
  have t1 : isRow (t + 1) 5 ∧ isRow (t + 5) 10 ∧ isRow (t + 9) 8 := by unfold isEve at ht; unfold isRow; omega
  have a1 : isRow (a + 1) 5 ∧ isRow (a + 5) 10 ∧ isRow (a + 9) 8 := by unfold isEve at ha; unfold isRow; omega
  obtain ⟨hR1, hZ, hS, hP, hB⟩ := hR
  obtain ⟨-, -, hS0, hP0, hB0⟩ := hT
  refine e_X1_copyFrom t ht a ha (s_X1_copyFrom_0 t ht a ha (g_copyFrom tt ta (by omega) hR1 (fun c1 o1 hC r1 => ?_)))
  have z1 := ZB_copy hR1.1.1 hZ hC
  refine g_rowsCopy t1.1 a1.1 (by omega) (RW_congr hS (fun k g1 g2 j => o1 k (by omega) j)) (RW_congr hS0 (fun k g1 g2 j => o1 k (by omega) j)) (fun c3 o3 r3 => ?_)
  refine g_rowsCopy t1.2.1 a1.2.1 (by omega) (RW_congr hP (fun k g1 g2 j => (o3 k (by omega) j).trans (o1 k (by omega) j))) (RW_congr hP0 (fun k g1 g2 j => (o3 k (by omega) j).trans (o1 k (by omega) j))) (fun c5 o5 r5 => ?_)
  refine g_rowsCopy t1.2.2 a1.2.2 (by omega) (RW_congr hB (fun k g1 g2 j => (o5 k (by omega) j).trans ((o3 k (by omega) j).trans (o1 k (by omega) j)))) (RW_congr hB0 (fun k g1 g2 j => (o5 k (by omega) j).trans ((o3 k (by omega) j).trans (o1 k (by omega) j)))) (fun c7 o7 r7 => ?_)
  have o17 : ∀ k, (k < t + 1 ∨ t + 12 < k) → ∀ j, c7 k j = c1 k j := fun k q j => by rw [o7 k (by omega), o5 k (by omega), o3 k (by omega)]
  have o0 : offE c c7 t := fun k q j => by rw [o17 k (by omega), o1 k (by omega)]
  have hh : ∀ k, hou (G 0 13) ≤ k → k ≤ hou (G 0 13) + 3 → ∀ j, c7 k j = c1 k j := fun k q1 q2 j => by
    have hi := hou_is (i := G 0 13) ⟨hR1.2.2.1.2.2.2.2.1, hR1.2.2.1.2.2.2.2.2⟩
    refine o17 k ?_ j
    unfold isHou at hi; unfold isEve at ht; omega
  have hh0 : ∀ k, hou (G 0 13) ≤ k → k ≤ hou (G 0 13) + 3 → ∀ j, c7 k j = c k j := fun k q1 q2 j => by
    have hi := hou_is (i := G 0 13) ⟨hR1.2.2.1.2.2.2.2.1, hR1.2.2.1.2.2.2.2.2⟩
    refine o0 k ?_ j
    unfold isHou at hi; unfold isEve at ht; omega
  refine h c7 o0 ⟨RT_tab r1 (fun k g1 g2 j => o17 k (by omega) j) hh, ZB_congr z1 (fun k g1 g2 j => o17 k (by omega) j), RW_congr r3 (fun k g1 g2 j => by rw [o7 k (by omega), o5 k (by omega)]), RW_congr r5 (fun k g1 g2 j => by rw [o7 k (by omega)]), r7⟩
    ⟨RT_tab hR1 (fun k g1 g2 j => o0 k (by omega) j) hh0, ZB_congr hZ (fun k g1 g2 j => o0 k (by omega) j), RW_congr hS (fun k g1 g2 j => o0 k (by omega) j), RW_congr hP (fun k g1 g2 j => o0 k (by omega) j), RW_congr hB (fun k g1 g2 j => o0 k (by omega) j)⟩
