/-! CONTRACTS: the public calls, second lot -/
theorem ZB_by {c c' : ct} {t : Int} (h : ZB c t) (h10 : c' t 10 = c t 10) (h7 : ∀ j, c' (t + 7) j = c (t + 7) j ∨ j < 4 * c t 10) (hp : ∀ p, c t 10 ≤ p → p < 6 → c' (t + 4) p = c (t + 4) p ∧ c' (t + 5) p = c (t + 5) p ∧ c' (t + 6) p = c (t + 6) p) : ZB c' t := by
  intro p g1 g2
  rw [h10] at g1
  obtain ⟨a, b, d, e⟩ := h p g1 g2
  obtain ⟨q4, q5, q6⟩ := hp p g1 g2
  refine ⟨by rw [q4]; exact a, by rw [q5]; exact b, by rw [q6]; exact d, fun i i1 i2 => ?_⟩
  rcases h7 (p * 4 + i) with q | q
  · rw [q]; exact e i i1 i2
  · omega
theorem o_guest {H : hf} {N I X : ct} {K : SK} {d : Nat} {c : ct} {Q : ct → Int → Prop} (hC : CSR H c N I X) {k v : Int} (hk : ir k) (hv : ir v) (h0 : ¬ (0 ≤ k ∧ k < 7) → Q c (-1)) (h1 : 0 ≤ k → k < 7 → ¬ (0 ≤ v ∧ v ≤ 9) → Q c (-2)) (h2 : 0 ≤ k → k < 7 → 0 ≤ v → v ≤ 9 → N 0 10 = 6 → Q c (-4))
    (h3 : ∀ c' s, 0 ≤ k → k < 7 → 0 ≤ v → v ≤ 9 → N 0 10 < 6 → loK c c' → fre N s → CSR H c' (tkG N k v s) I X → Q c' (N 0 10)) : CI K (d + 6) mX8_guest [(2, 0), (0, k), (0, v)] c Q := by
  have hn := hC.n
  refine e_X8_guest k v (s_X8_guest_0 k v ⟨hk, fun z => h0 (by omega), fun z => ⟨hk, fun z2 => ?_, fun z2 => h0 (by omega)⟩⟩)
  refine g_isDigit v hv (fun z3 => ⟨fun _ => h1 (by omega) z2 z3, fun q => absurd rfl q⟩) (fun v1 v2 => ⟨fun q => absurd q one_ne, fun _ => ⟨ir01.2, ⟨by omega, by omega⟩, fun lt => ?_, fun ge => h2 (by omega) z2 v1 v2 (by omega)⟩⟩)
  refine g_takeIn t24 hC.now hC.1.2.1 (by omega) ⟨by omega, z2⟩ ⟨v1, v2⟩ (fun c' s ho hf hR hZ => h3 c' s (by omega) z2 v1 v2 (by omega) (lo24 ho) hf (CSR_tab hC ho ?_ ?_ hR hZ ?_ ?_ ?_))
  · intro a a1 j
    unfold tkG
    rw [if_neg (show ¬ a = 0 by omega), if_neg (show ¬ a = 7 by omega), if_neg (fun q => by omega)]
  · intro j a
    show (if j = 10 then N 0 10 + 1 else N 0 j) = N 0 j
    rw [if_neg (by omega)]
  · show N 0 10 ≤ N 0 10 + 1
    omega
  · exact hC.2.2.1.1.1
  · exact hC.2.2.2.2.1.1
theorem o_sit {H : hf} {N I X : ct} {K : SK} {d : Nat} {c : ct} {Q : ct → Int → Prop} (hC : CSR H c N I X) {p s : Int} (hp : ir p) (hs : ir s) (h0 : ¬ (isG N p ∧ 0 ≤ s ∧ s < 6) → Q c (-10001)) (h1 : ∀ c', isG N p → 0 ≤ s → s < 6 → loK c c' → CSR H c' (mvG N p s) I X → Q c' (fdG H (mvG N p s) (N 0 12) p)) : CI K (d + 4) mX8_sit [(2, 0), (0, p), (0, s)] c Q := by
  have hn := hC.n
  refine e_X8_sit p s (s_X8_sit_0 p s (g_isGuest hC p hp (fun z => ⟨fun _ => h0 (fun b => z b.1), fun z2 => absurd rfl z2⟩) (fun g1 g2 => ⟨fun z => absurd z one_ne, fun _ => ⟨ir01.2, ?_⟩⟩)))
  refine g_isSeat s hs (fun z => ⟨fun _ => h0 (fun b => z b.2), fun z2 => absurd rfl z2⟩) (fun s1 s2 => ⟨fun z => absurd z one_ne, fun _ => ⟨ir01.2, ?_⟩⟩)
  refine g_moveTo t24 hC.now ⟨g1, g2⟩ ⟨s1, s2⟩ (fun c' ho hne hR => ?_)
  have hZ : ZB c' 24 := ZB_by hC.1.2.1 (hne _ (by decide) (by decide) _) (fun j => Or.inl (hne _ (by decide) (by decide) _)) (fun q _ _ => ⟨hne _ (by decide) (by decide) _, hne _ (by decide) (by decide) _, hne _ (by decide) (by decide) _⟩)
  have hC' : CSR H c' (mvG N p s) I X := CSR_tab hC ho (fun k a j => by unfold mvG; rw [if_neg (by omega)]) (fun j a => rfl) hR hZ (Int.le_refl _) hC.2.2.1.1.1 hC.2.2.2.2.1.1
  exact g_fondOf t24 hR ⟨g1, g2⟩ (h1 c' ⟨g1, g2⟩ s1 s2 (lo24 ho) hC')
theorem o_leave {H : hf} {N I X : ct} {K : SK} {d : Nat} {c : ct} {Q : ct → Int → Prop} (hC : CSR H c N I X) {p v : Int} (hp : ir p) (hv : v = 0 ∨ v = 1) (h0 : ¬ isG N p → Q c (-1)) (h1 : ∀ c', isG N p → loK c c' → CSR H c' (goG N p v) I X → Q c' (N 6 p)) : CI K (d + 2) mX8_leave [(2, 0), (0, p), (0, v)] c Q := by
  have hn := hC.n
  refine e_X8_leave p v (s_X8_leave_0 p v (g_isGuest hC p hp (fun z => ⟨fun _ => h0 z, fun z2 => absurd rfl z2⟩) (fun g1 g2 => ⟨fun z => absurd z one_ne, fun _ => ⟨ir01.2, ⟨g1, by omega⟩, ?_⟩⟩)))
  have e : c 30 p = N 6 p := (hC.now.2.2.2.2.1 p g1 g2).1.2.2.2.2.2
  have r6 := (RT_p hC.now ⟨g1, g2⟩).2.2.2.2.2.1
  rw [e]
  refine k_X8_oneIf _ (ir_01 r6) ⟨⟨⟨g1, by omega⟩, hv⟩, fun c7 e7 => ?_⟩
  rw [e01 r6]
  subst e7
  have hR := RT_gone t24 hC.now (g := p) hv
  have ho : offT c (up2 c 30 p v) 24 := fun k a j => up2_ne1 (by omega)
  have hZ : ZB (up2 c 30 p v) 24 := ZB_by hC.1.2.1 (up2_ne1 (by decide)) (fun j => Or.inl (up2_ne1 (by decide))) (fun q a b => ⟨up2_ne1 (by decide), up2_ne1 (by decide), up2_ne2 (by omega)⟩)
  refine h1 _ ⟨g1, g2⟩ (lo24 ho) (CSR_tab hC ho (fun k a j => by unfold goG; rw [if_neg (by omega)]) (fun j a => by unfold goG; rw [if_neg (by omega)]) hR hZ (Int.le_refl _) hC.2.2.1.1.1 hC.2.2.2.2.1.1)
theorem em_r {f : Int → Int} : ∀ (n : Nat) (i : Int), 0 ≤ i → i + n ≤ 6 → (∀ j, i ≤ j → j < i + n → f j = 0 ∨ f j = 1) → 0 ≤ smR (fun p => f p * pw p) n i ∧ smR (fun p => f p * pw p) n i < 64 ∧ (i < 6 → smR (fun p => f p * pw p) n i ≤ 64 - pw i) := by
  intro n
  induction n with
  | zero =>
    intro i h0 h1 _
    have := pw_p i
    refine ⟨(show (0 : Int) ≤ 0 by decide), (show (0 : Int) < 64 by decide), fun _ => ?_⟩
    show (0 : Int) ≤ _
    omega
  | succ n ih =>
    intro i h0 h1 h
    have hi := h i (by omega) (by omega)
    obtain ⟨a, b, d⟩ := ih (i + 1) (by omega) (by omega) (fun j g1 g2 => h j (by omega) (by omega))
    have p1 := pw_p i
    rw [smR]
    show 0 ≤ f i * pw i + _ ∧ f i * pw i + _ < 64 ∧ (i < 6 → f i * pw i + _ ≤ 64 - pw i)
    by_cases z : i = 5
    · have n0 : n = 0 := by omega
      subst n0; subst z
      have hz : smR (fun p => f p * pw p) 0 (5 + 1) = 0 := rfl
      rw [hz]
      rcases hi with e | e <;> rw [e] <;> decide
    · have := d (by omega)
      have p2 := pw_s (i := i) ⟨h0, by omega⟩
      rcases hi with e | e <;> rw [e] <;> omega
theorem emG_r {H : hf} {c G : ct} {t : Int} (hR : RT H c t G) : 0 ≤ emG G ∧ emG G < 64 := by
  have hn := hR.1.1.1
  have e10 := hR.2.2.1.1
  have := em_r (f := G 5) (G 0 10).toNat 0 (by decide) (by omega) (fun j g1 g2 => (RT_p hR ⟨g1, by omega⟩).2.2.2.2.1)
  exact ⟨this.1, this.2.1⟩
theorem o_pour {H : hf} {N I X : ct} {K : SK} {d : Nat} {c : ct} {Q : ct → Int → Prop} (hC : CSR H c N I X) {s : Int} (hs : ir s) (h0 : ¬ (0 ≤ s ∧ s < 6) → Q c (-1)) (h1 : ∀ c', 0 ≤ s → s < 6 → loK c c' → CSR H c' (poG N s) I X → Q c' (cnt6 (emG (poG N s)))) : CI K (d + 3) mX8_pour [(2, 0), (0, s)] c Q := by
  have hn := hC.n
  refine e_X8_pour s (s_X8_pour_0 s (g_isSeat s hs (fun z => ⟨fun _ => h0 z, fun z2 => absurd rfl z2⟩) (fun s1 s2 => ⟨fun z => absurd z one_ne, fun _ => ⟨ir01.2, ?_⟩⟩)))
  refine g_pourAt (d := d + 1) t24 hC.now ⟨s1, s2⟩ (fun hR => ?_)
  have pne : ∀ k, k ≠ 24 → k ≠ 29 → ∀ j, pourC c 24 s k j = c k j := by
    intro k a b j
    unfold pourC
    split
    · exact up2_ne1 a
    · rw [up2_ne1 (by omega), up2_ne1 a]
  have p10 : pourC c 24 s 24 10 = c 24 10 := by
    unfold pourC
    split
    · exact up2_ne2 (by decide)
    · rw [up2_ne1 (by decide), up2_ne2 (by decide)]
  have ho : offT c (pourC c 24 s) 24 := fun k a j => pne k (by omega) (by omega) j
  have hZ : ZB (pourC c 24 s) 24 := ZB_by hC.1.2.1 p10 (fun j => Or.inl (pne _ (by decide) (by decide) _)) (fun q a b => ⟨pne _ (by decide) (by decide) _, ?_, pne _ (by decide) (by decide) _⟩)
  · have hC' : CSR H (pourC c 24 s) (poG N s) I X := CSR_tab hC ho (fun k a j => by unfold poG; rw [if_neg (by omega), if_neg (by omega)]) (fun j a => poG_n (by omega)) hR hZ (Int.le_refl _) hC.2.2.1.1.1 hC.2.2.2.2.1.1
    refine g_emptyCups t24 hR ?_
    exact k_bitCount (emG_r hR) (h1 _ s1 s2 (lo24 ho) hC')
  · show pourC c 24 s 29 q = c 29 q
    unfold pourC
    by_cases z : c (24 + 8) s < 0
    · rw [if_pos z]; exact up2_ne1 (by decide)
    · have := (hC.now.2.1.2 s s1 s2 (by omega)).1
      rw [if_neg z, up2_ne2 (by omega)]; exact up2_ne1 (by decide)
def rwG (G : ct) (j v : Int) : ct := fun k i => if k = 7 ∧ i = j then v else G k i
theorem o_row {H : hf} {N I X : ct} {K : SK} {d : Nat} {c : ct} {Q : ct → Int → Prop} (hC : CSR H c N I X) {p a n : Int} (hp : ir p) (ha : ir a) (hnn : ir n) (h0 : ¬ (isG N p ∧ 0 ≤ a ∧ a < 4) → Q c (-1)) (h1 : isG N p → 0 ≤ a → a < 4 → ¬ (0 ≤ n ∧ n ≤ 9) → Q c (-2)) (h2 : isG N p → 0 ≤ a → a < 4 → 0 ≤ n → n ≤ 9 → ¬ N 1 p = 6 → Q c (-3))
    (h3 : ∀ c', isG N p → 0 ≤ a → a < 4 → 0 ≤ n → n ≤ 9 → N 1 p = 6 → loK c c' → CSR H c' (rwG N (p * 4 + a) n) I X → Q c' (N 7 (p * 4 + a))) : CI K (d + 2) mX8_row [(2, 0), (0, p), (0, a), (0, n)] c Q := by
  have hn := hC.n
  have hT := hC.now.1.1
  refine e_X8_row p a n (s_X8_row_0 p a n (g_isGuest hC p hp (fun z => ⟨fun _ => h0 (fun b => z b.1), fun z2 => absurd rfl z2⟩) (fun g1 g2 => ⟨fun z => absurd z one_ne, fun _ => ⟨ir01.2, ha, fun z => h0 (by omega), fun z => ⟨ha, fun z2 => ?_, fun z2 => h0 (by omega)⟩⟩⟩)))
  refine g_isDigit n hnn (fun z3 => ⟨fun _ => h1 ⟨g1, g2⟩ (by omega) z2 z3, fun q => absurd rfl q⟩) (fun v1 v2 => ⟨fun q => absurd q one_ne, fun _ => ⟨ir01.2, ⟨g1, by omega⟩, ?_⟩⟩)
  obtain ⟨e, e7⟩ := hC.now.2.2.2.2.1 p g1 g2
  have e1 : c 25 p = N 1 p := e.1
  have rp := RT_p hC.now ⟨g1, g2⟩
  have e31 : c 31 (p * 4 + a) = N 7 (p * 4 + a) := e7 a (by omega) z2
  rw [e1]
  refine ⟨fun k6 => ⟨⟨by omega, by omega⟩, ⟨by omega, by omega⟩, fun c14 e14 => ?_⟩, fun k6 => ⟨⟨by omega, by omega⟩, h2 ⟨g1, g2⟩ (by omega) z2 v1 v2 k6⟩⟩
  rw [e31]
  subst e14
  have ho : offT c (up2 c 31 (p * 4 + a) n) 24 := fun k b j => up2_ne1 (by omega)
  have ne : ∀ k, k ≠ 31 → ∀ j, up2 c 31 (p * 4 + a) n k j = c k j := fun k b j => up2_ne1 b
  have hR : RT H (up2 c 31 (p * 4 + a) n) 24 (rwG N (p * 4 + a) n) := by
    refine RT_rows t24 hC.now (fun k b1 b2 j => ne k (by omega) j) (fun j b => ne _ (by decide) j) (by rw [ne _ (by decide)]; exact hT.2.1) (fun q q1 q2 => ?_) (fun i i1 i2 => ?_) ⟨rfl, by rw [ne _ (by decide)]; exact hC.now.2.2.1.2.1, rfl, rfl⟩ (fun q q1 q2 => ?_)
    · rw [ne (24 + 4) (by decide), ne (24 + 5) (by decide), ne (24 + 6) (by decide)]
      have hq := hT.2.2.2.2.1 q q1 q2
      exact ⟨⟨hq.2.2.2.1.1, hC.now.2.2.2.2.2 q q1 q2⟩, hq.2.2.2.2.1, hq.2.2.2.2.2.1⟩
    · show 0 ≤ up2 c 31 (p * 4 + a) n 31 i ∧ up2 c 31 (p * 4 + a) n 31 i ≤ 9
      simp only [up2, true_and]
      split
      · exact ⟨v1, v2⟩
      · exact hT.2.2.2.2.2.1 i i1 i2
    · rw [ne (24 + 4) (by decide), ne (24 + 5) (by decide), ne (24 + 6) (by decide)]
      obtain ⟨f, f7⟩ := hC.now.2.2.2.2.1 q q1 q2
      refine ⟨⟨rfl, rfl, rfl, f.2.2.2.1, f.2.2.2.2.1, f.2.2.2.2.2⟩, fun i i1 i2 => ?_⟩
      show up2 c 31 (p * 4 + a) n 31 (q * 4 + i) = if (7 : Int) = 7 ∧ q * 4 + i = p * 4 + a then n else N 7 (q * 4 + i)
      simp only [up2, true_and]
      split
      · rfl
      · exact f7 i i1 i2
  have hZ : ZB (up2 c 31 (p * 4 + a) n) 24 := by
    refine ZB_by hC.1.2.1 (ne _ (by decide) _) (fun j => ?_) (fun q _ _ => ⟨ne _ (by decide) _, ne _ (by decide) _, ne _ (by decide) _⟩)
    by_cases z : j = p * 4 + a
    · exact Or.inr (by omega)
    · exact Or.inl (up2_ne2 z)
  exact h3 _ ⟨g1, g2⟩ (by omega) z2 v1 v2 k6 (lo24 ho) (CSR_tab hC ho (fun k b j => by unfold rwG; rw [if_neg (by omega)]) (fun j b => rfl) hR hZ (Int.le_refl _) hC.2.2.1.1.1 hC.2.2.2.2.1.1)
