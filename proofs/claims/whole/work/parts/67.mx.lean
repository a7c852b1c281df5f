/-! CONTRACTS: the reference's public calls, first lot -/
theorem bz {A B : Prop} (h : A) : ((0 : Int) = 0 → A) ∧ (¬ ((0 : Int) = 0) → B) := ⟨fun _ => h, fun q => absurd rfl q⟩
theorem bo {A B : Prop} (h : B) : ((1 : Int) = 0 → A) ∧ (¬ ((1 : Int) = 0) → ir 1 ∧ B) := ⟨fun q => absurd q one_ne, fun _ => ⟨ir01.2, h⟩⟩
theorem MSR.q {H : hf} {c N I X : ct} (h : MSR H c N I X) (hP : PU N I X) {c' : ct} (hq : eqS c c') : MSR H c' N I X := MSR_q h hP.1.2.2.1 hq
theorem n_of {H : hf} {c N I X : ct} {K : SK} {d : Nat} {Q : ct → Int → Prop} (hM : MSR H c N I X) (hP : PU N I X) {p w : Int} (hp : ir p) (hw : ir w) (h0 : ¬ isG N p → Q c (-10001)) (h1 : ∀ c', isG N p → loM c c' → MSR H c' N I X → Q c' (r_of H N p w)) : CI K (d + 6) mX9_of [(2, 108), (0, p), (0, w)] c Q := by
  have k := hM.k hP
  have n6 := k.1.1
  refine e_X9_of p w (s_X9_of_0 p w (m_isGuest hp k.1.1 (fun z => bz (h0 z)) (fun a b => bo ?_)))
  obtain ⟨r1, r2, r3, r4, r5, r6, r7⟩ := k.1.2.2.2.2.2.2 p a b
  have hc := h1 c ⟨a, b⟩ loM.rf hM
  have p6 : 0 ≤ p ∧ p < 6 := ⟨a, by omega⟩
  refine ⟨hw, fun z => ⟨p6, ?_⟩, fun z => ⟨p6, ?_⟩, fun z => ⟨p6, ?_⟩, fun z => m_emp k.1 ⟨a, b⟩ ?_, fun z => ⟨p6, ?_⟩, fun z => m_gone k.1 ⟨a, b⟩ ?_, fun z => m_beside (d := d + 2) k.1 ⟨a, b⟩ ?_, fun z => m_fond k ⟨a, b⟩ (fun c' ho _ => ?_), fun z => ?_⟩
  · subst z; rw [r1.1]; exact hc
  · subst z; rw [r2.1]; exact hc
  · subst z; rw [r3.1]; exact hc
  · subst z
    have hc : Q c (N 5 p) := hc
    refine ⟨fun q => by rw [q] at hc; exact hc, fun q => ⟨ir_01 r5, ?_⟩⟩
    have : N 5 p = 1 := by omega
    rw [this] at hc; exact hc
  · subst z; rw [r4.1]; exact hc
  · subst z
    have hc : Q c (N 6 p) := hc
    refine ⟨fun q => by rw [q] at hc; exact hc, fun q => ⟨ir_01 r6, ?_⟩⟩
    have : N 6 p = 1 := by omega
    rw [this] at hc; exact hc
  · subst z; exact hc
  · subst z; exact h1 c' ⟨a, b⟩ ho.q.lo (hM.q hP ho.q)
  · have e : r_of H N p w = -10001 := by
      unfold r_of
      rw [if_neg (by omega), if_neg (by omega), if_neg (by omega), if_neg (by omega), if_neg (by omega), if_neg (by omega), if_neg (by omega), if_neg (by omega)]
    rw [e] at hc; exact hc
theorem n_likes {H : hf} {c N I X : ct} {K : SK} {d : Nat} {Q : ct → Int → Prop} (hM : MSR H c N I X) (hP : PU N I X) {p q : Int} (hp : ir p) (hq : ir q) (h0 : ¬ (isG N p ∧ isG N q) → Q c (-10001)) (h1 : isG N p → p = q → Q c (-10002)) (h2 : ∀ c', isG N p → isG N q → p ≠ q → loM c c' → MSR H c' N I X → Q c' (lkG H N (N 0 12) p q)) : CI K (d + 4) mX9_likes [(2, 108), (0, p), (0, q)] c Q := by
  have k := hM.k hP
  refine e_X9_likes p q (s_X9_likes_0 p q (m_isGuest (d := d + 1) hp k.1.1 (fun z => bz (h0 (fun w => z w.1))) (fun a b => bo (m_isGuest (d := d + 1) hq k.1.1 (fun z => bz (h0 (fun w => z w.2))) (fun a2 b2 => bo ⟨fun z => h1 ⟨a, b⟩ z, fun z => ⟨⟨hp, hq⟩, m_likesOf k ⟨a, b⟩ ⟨a2, b2⟩ (fun c' ho => h2 c' ⟨a, b⟩ ⟨a2, b2⟩ z ho.q.lo (hM.q hP ho.q))⟩⟩)))))
theorem MHR.w {H : hf} {c c' : ct} {i : Int} (h : MHR H c i) (ho : ∀ k j, ¬ (k ≤ 114 ∨ 122 < k) → c' k j = c k j) : MHR H c' i := MHR_congr h (fun k a b j => ho k j (by omega))
theorem mv_sr {N : ct} {p s : Int} : sameR N (mvG N p s) ∧ same0 N (mvG N p s) := ⟨fun k a j => by unfold mvG; rw [if_neg (by omega)], fun j a => rfl⟩
theorem n_sit {H : hf} {c N I X : ct} {K : SK} {d : Nat} {Q : ct → Int → Prop} (hM : MSR H c N I X) (hP : PU N I X) {p s : Int} (hp : ir p) (hs : ir s) (h0 : ¬ (isG N p ∧ 0 ≤ s ∧ s < 6) → Q c (-10001)) (h1 : ∀ c', isG N p → 0 ≤ s → s < 6 → loM c c' → MSR H c' (mvG N p s) I X → Q c' (fdG H (mvG N p s) (N 0 12) p)) : CI K (d + 6) mX9_sit [(2, 108), (0, p), (0, s)] c Q := by
  have k := hM.k hP
  refine e_X9_sit p s (s_X9_sit_0 p s (m_isGuest (d := d + 3) hp k.1.1 (fun z => bz (h0 (fun w => z w.1))) (fun a b => bo (m_isSeat (d := d + 3) hs (fun z => bz (h0 (fun w => z w.2))) (fun a2 b2 => bo (m_takesSeat (d := d + 3) k.1 hP.1.1 ⟨a, b⟩ ⟨a2, b2⟩ (fun c' ho hT => ?_)))))))
  have hM' : MSR H c' (mvG N p s) I X := MSR_tab hM (fun k j w => ho k j (fun q => w (by omega))) hT mv_sr.1 mv_sr.2
  have k' : MK H c' (mvG N p s) := ⟨hT, MHR.w k.2 (fun k j w => ho k j (by omega))⟩
  refine m_fond (d := d) k' ⟨a, b⟩ (fun c2 ho2 k2 => h1 c2 ⟨a, b⟩ a2 b2 (fun k w j => ?_) (MSR_q hM' hP.1.2.2.1 ho2.q))
  rw [ho2.q.lo k w j]; exact ho k j (by omega)
theorem go_sr {N : ct} {p v : Int} : sameR N (goG N p v) ∧ same0 N (goG N p v) := ⟨fun k a j => by unfold goG; rw [if_neg (by omega)], fun j a => by unfold goG; rw [if_neg (by omega)]⟩
theorem n_leave {H : hf} {c N I X : ct} {K : SK} {d : Nat} {Q : ct → Int → Prop} (hM : MSR H c N I X) (hP : PU N I X) {p v : Int} (hp : ir p) (hv : v = 0 ∨ v = 1) (h0 : ¬ isG N p → Q c (-1)) (h1 : ∀ c', isG N p → loM c c' → MSR H c' (goG N p v) I X → Q c' (N 6 p)) : CI K (d + 3) mX9_leave [(2, 108), (0, p), (0, v)] c Q := by
  have k := hM.k hP
  refine e_X9_leave p v (s_X9_leave_0 p v (m_isGuest hp k.1.1 (fun z => bz (h0 z)) (fun a b => bo (m_gone (d := d + 1) k.1 ⟨a, b⟩ ?_))))
  have r6 := (k.1.2.2.2.2.2.2 p a b).2.2.2.2.2.1
  have fin : ∀ x, x = N 6 p → CV K (d + 2) mX9_goes [(2, 108), (0, p), (0, v)] c (fun c' => Q c' x) := fun x e => by
    subst e
    exact m_goes (d := d + 1) k.1 ⟨a, b⟩ hv (fun hT => h1 _ ⟨a, b⟩ (fun k w j => up2_ne1 (by omega)) (MSR_tab hM (fun k j w => by unfold up2; rw [if_neg (by omega)]) hT go_sr.1 go_sr.2))
  exact ⟨fun z => fin 0 z.symm, fun z => ⟨ir_01 r6, fin 1 (by omega)⟩⟩
theorem po_sr {N : ct} {s : Int} : sameR N (poG N s) ∧ same0 N (poG N s) := ⟨fun k a j => by unfold poG; rw [if_neg (by omega), if_neg (by omega)], fun j a => poG_n (by omega)⟩
theorem n_pour {H : hf} {c N I X : ct} {K : SK} {d : Nat} {Q : ct → Int → Prop} (hM : MSR H c N I X) (hP : PU N I X) {s : Int} (hs : ir s) (h0 : ¬ (0 ≤ s ∧ s < 6) → Q c (-1)) (h1 : ∀ c', 0 ≤ s → s < 6 → loM c c' → MSR H c' (poG N s) I X → Q c' (cnt6 (emG (poG N s)))) : CI K (d + 3) mX9_pour [(2, 108), (0, s)] c Q := by
  have k := hM.k hP
  refine e_X9_pour s (s_X9_pour_0 s (m_isSeat hs (fun z => bz (h0 z)) (fun a b => bo (m_pours k.1 hP.1.1 ⟨a, b⟩ (fun c' ho hT => ?_)))))
  have e2 : c' 108 2 = emG (poG N s) := hT.2.2.2.2.2.1
  have bb := (mk_bit (f := poG N s 5) (n := poG N s 0 10) (k := 0) hT.1.2 (fun q a b => (hT.2.2.2.2.2.2 q a b).2.2.2.2.1) ⟨by decide, by decide⟩).1
  rw [e2]
  exact m_bits bb (h1 c' a b (fun k w j => ho k j (by omega)) (MSR_tab hM (fun k j w => ho k j (fun q => w (by omega))) hT po_sr.1 po_sr.2))
theorem MT_row {c G : ct} {p i v : Int} (hM : MT c G) (hp : 0 ≤ p ∧ p < G 0 10) (hi : 0 ≤ i ∧ i < 4) (hv : 0 ≤ v ∧ v ≤ 9) : MT (up2 c 113 (p * 4 + i) v) (rwG G (p * 4 + i) v) := by
  obtain ⟨b0, b3, b4, b5, b1, b2, hr⟩ := hM
  have g : ∀ k j, k ≠ 7 → rwG G (p * 4 + i) v k j = G k j := fun k j a => by unfold rwG; rw [if_neg (fun q => a q.1)]
  unfold MT
  rw [g 0 10 (by decide), g 0 11 (by decide), g 0 12 (by decide), g 0 13 (by decide)]
  rw [show rwG G (p * 4 + i) v 6 = G 6 from funext (fun j => g 6 j (by decide)), show rwG G (p * 4 + i) v 5 = G 5 from funext (fun j => g 5 j (by decide))]
  refine ⟨by rw [up2_ne1 (by decide)]; exact b0, by rw [up2_ne1 (by decide)]; exact b3, by rw [up2_ne1 (by decide)]; exact b4, by rw [up2_ne1 (by decide)]; exact b5, by rw [up2_ne1 (by decide)]; exact b1, by rw [up2_ne1 (by decide)]; exact b2, fun q a b => ?_⟩
  rw [up2_ne1 (by decide), up2_ne1 (by decide), up2_ne1 (by decide), up2_ne1 (by decide), g 1 q (by decide), g 2 q (by decide), g 3 q (by decide), g 4 q (by decide)]
  obtain ⟨r1, r2, r3, r4, r5, r6, r7⟩ := hr q a b
  refine ⟨r1, r2, r3, r4, r5, r6, fun j j0 j1 => ?_⟩
  have e1 : up2 c 113 (p * 4 + i) v 113 (q * 4 + j) = if q * 4 + j = p * 4 + i then v else c 113 (q * 4 + j) := by simp [up2]
  have e2 : rwG G (p * 4 + i) v 7 (q * 4 + j) = if q * 4 + j = p * 4 + i then v else G 7 (q * 4 + j) := by simp [rwG]
  rw [e1, e2]
  split
  · exact ⟨rfl, hv⟩
  · exact r7 j j0 j1
theorem rw_sr {N : ct} {j v : Int} : sameR N (rwG N j v) ∧ same0 N (rwG N j v) := ⟨fun k a i => by unfold rwG; rw [if_neg (by omega)], fun i a => by unfold rwG; rw [if_neg (by omega)]⟩
theorem n_row {H : hf} {c N I X : ct} {K : SK} {d : Nat} {Q : ct → Int → Prop} (hM : MSR H c N I X) (hP : PU N I X) {p a n : Int} (hp : ir p) (ha : ir a) (hnn : ir n) (h0 : ¬ (isG N p ∧ 0 ≤ a ∧ a < 4) → Q c (-1)) (h1 : isG N p → 0 ≤ a → a < 4 → ¬ (0 ≤ n ∧ n ≤ 9) → Q c (-2)) (h2 : isG N p → 0 ≤ a → a < 4 → 0 ≤ n → n ≤ 9 → ¬ N 1 p = 6 → Q c (-3))
    (h3 : ∀ c', isG N p → 0 ≤ a → a < 4 → 0 ≤ n → n ≤ 9 → N 1 p = 6 → loM c c' → MSR H c' (rwG N (p * 4 + a) n) I X → Q c' (N 7 (p * 4 + a))) : CI K (d + 3) mX9_row [(2, 108), (0, p), (0, a), (0, n)] c Q := by
  have k := hM.k hP
  have n6 := k.1.1
  refine e_X9_row p a n (s_X9_row_0 p a n (m_isGuest hp k.1.1 (fun z => bz (h0 (fun w => z w.1))) (fun g1 g2 => bo (m_in (d := d + 1) ha ir01.1 ⟨by decide, by decide⟩ (fun z => bz (h0 (fun w => z ⟨w.2.1, by omega⟩))) (fun a1 a2 => bo (m_in (d := d + 1) hnn ir01.1 ⟨by decide, by decide⟩ (fun z => bz (h1 ⟨g1, g2⟩ a1 (by omega) z)) (fun n1 n2 => bo ?_)))))))
  obtain ⟨r1, r2, r3, r4, r5, r6, r7⟩ := k.1.2.2.2.2.2.2 p g1 g2
  rw [r1.1, show 4 * p + a = p * 4 + a by omega, (r7 a a1 (by omega)).1]
  refine ⟨⟨g1, by omega⟩, fun z => ⟨⟨by omega, by omega⟩, ⟨by omega, by omega⟩, fun c13 h13 => ?_⟩, fun z => ⟨⟨by omega, by omega⟩, h2 ⟨g1, g2⟩ a1 (by omega) n1 n2 z⟩⟩
  subst h13
  exact h3 _ ⟨g1, g2⟩ a1 (by omega) n1 n2 z (fun k w j => up2_ne1 (by omega)) (MSR_tab hM (fun k j w => by unfold up2; rw [if_neg (by omega)]) (MT_row k.1 ⟨g1, g2⟩ ⟨a1, by omega⟩ ⟨n1, n2⟩) rw_sr.1 rw_sr.2)
theorem n_told {H : hf} {c N I X : ct} {K : SK} {d : Nat} {Q : ct → Int → Prop} (hM : MSR H c N I X) (hP : PU N I X) {w : Int} (hw : ir w) (h : ∀ c', loM c c' → MSR H c' N I X → Q c' (r_told H N w)) : CI K (d + 7) mX9_told [(2, 108), (0, w)] c Q := by
  have k := hM.k hP
  have hc := h c loM.rf hM
  refine e_X9_told w (s_X9_told_0 w (m_in (d := d + 5) hw ⟨by decide, by decide⟩ ⟨by decide, by decide⟩ (fun z => bz ?_) (fun a b => bo (m_who (d := d + 5) k.1 ⟨by omega, by have := hw.2; omega⟩ ?_))))
  · refine ⟨hw, fun z => ?_, fun z => m_lastOf (d := d + 4) k.cl ⟨by decide, by decide⟩ ?_, fun z => m_lastOf (d := d + 4) k.cl ⟨by decide, by decide⟩ ?_, fun z => ?_, fun z => ?_, fun z => m_allFond (d := d) k (fun c' ho _ => ?_), fun z => m_clashes (d := d + 1) k hP.1.1 (fun c' ho _ => ?_), fun z => m_round (d := d + 1) k.1 ?_, fun z => m_toward (d := d + 1) k.1 ?_, fun z => ?_⟩
    · subst z; rw [k.1.2.2.1.1]; exact hc
    · subst z; rw [k.thi]; exact hc
    · subst z; rw [k.win]; exact hc
    · subst z; rw [k.1.2.1.1]; exact hc
    · subst z; rw [k.1.2.2.2.2.2.1]; exact hc
    · subst z; exact h c' ho.q.lo (hM.q hP ho.q)
    · subst z; exact h c' ho.q.lo (hM.q hP ho.q)
    · subst z; exact hc
    · subst z; exact hc
    · have e : r_told H N w = -10001 := by
        unfold r_told
        rw [if_neg (by omega), if_neg (by omega), if_neg (by omega), if_neg (by omega), if_neg (by omega), if_neg (by omega), if_neg (by omega), if_neg (by omega), if_neg (by omega), if_neg (by omega)]
      rw [e] at hc; exact hc
  · have e : r_told H N w = whG N (w - 10) := by
      unfold r_told
      rw [if_neg (by omega), if_neg (by omega), if_neg (by omega), if_neg (by omega), if_neg (by omega), if_neg (by omega), if_neg (by omega), if_neg (by omega), if_neg (by omega), if_pos (by omega)]
    rw [e] at hc; exact hc
