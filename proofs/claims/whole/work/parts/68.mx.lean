/-! CONTRACTS: the reference's public calls, second lot -/
theorem PU.g {N I X : ct} (h : PU N I X) : DS N ∧ (0 ≤ N 0 12 ∧ N 0 12 ≤ 9999) ∧ (∀ p, 0 ≤ p → p < N 0 10 → N 4 p ≤ N 0 12) ∧ SZ N := ⟨h.1.1, h.1.2.1.1, h.1.2.2.2.2.2, h.1.2.2.1⟩
theorem UY_yr {H : hf} {c G : ct} {m : Nat} (hM : MT c G) (h : ∀ p, 0 ≤ p → p < G 0 10 → G 4 p ≤ G 0 12) : ∀ p, 0 ≤ p → p < yrG H G m 0 10 → yrG H G m 4 p ≤ yrG H G m 0 12 := by
  intro p a b
  rw [yr_0 (by decide)] at b
  have m01 := (hM.2.2.2.2.2.2 p a b).2.2.2.2.1
  have := yU_bd (f := fun Y => fdG H G Y p) (th := H (G 0 13) 1 (fun _ => 0)) (g := G 6 p) m (G 0 12) (G 5 p) (G 4 p) m01
  have := h p a b
  rw [yr_4, yr_12]
  omega
theorem n_pass {H : hf} {c N I X : ct} {K : SK} {d : Nat} {Q : ct → Int → Prop} (hM : MSR H c N I X) (hP : PU N I X) {n : Int} (hn : ir n) (h0 : ¬ (0 ≤ n ∧ n ≤ 60) → Q c (-2)) (h1 : 0 ≤ n → n ≤ 60 → ¬ N 0 12 + n ≤ 9999 → Q c (-3)) (h2 : ∀ c', 0 ≤ n → n ≤ 60 → N 0 12 + n ≤ 9999 → loM c c' → MSR H c' (yrG H N n.toNat) I X → Q c' (N 0 12 + n)) : CI K (d + 7) mX9_pass [(2, 108), (0, n)] c Q := by
  have k := hM.k hP
  obtain ⟨gD, gy, gu, gz⟩ := hP.g
  refine e_X9_pass n (s_X9_pass_0 n (m_isYears (d := d + 4) hn (fun z => bz (h0 z)) (fun a b => bo ?_)))
  rw [k.1.2.2.1.1]
  refine ⟨⟨by omega, by omega⟩, fun z => m_goYears (d := d) (B := 9999) k ⟨a, by omega⟩ ⟨hM.2.1, by decide⟩ (fun p p0 p1 => by have := gu p p0 p1; omega) (by omega) (fun c' ho k' => ?_), fun z => h1 a b z⟩
  rw [k'.1.2.2.1.1, yr_12, show N 0 12 + (n.toNat : Int) = N 0 12 + n by omega]
  exact h2 c' a b z (fun k w j => ho k j (by unfold yrP; omega)) (MSR_tab hM (fun k j w => ho k j (fun q => w (by unfold yrP at q; unfold sqP; omega))) k'.1 yr_same.1 yr_same.2)
theorem n_on {H : hf} {c N I X : ct} {K : SK} {d : Nat} {Q : ct → Int → Prop} (hM : MSR H c N I X) (hP : PU N I X) {n w : Int} (hn : ir n) (hw : ir w) (h0 : ¬ (w = 0 ∨ w = 1 ∨ isG N (w - 10)) → Q c (-10001)) (h1 : (w = 0 ∨ w = 1 ∨ isG N (w - 10)) → ¬ (0 ≤ n ∧ n ≤ 60) → Q c (-10002)) (h2 : ∀ c', (w = 0 ∨ w = 1 ∨ isG N (w - 10)) → 0 ≤ n → n ≤ 60 → loM c c' → MSR H c' N I X → Q c' (r_on H N n w)) : CI K (d + 8) mX9_on [(2, 108), (0, n), (0, w)] c Q := by
  have k := hM.k hP
  have n6 := k.1.1
  obtain ⟨gD, gy, gu, gz⟩ := hP.g
  have go : (w = 0 ∨ w = 1 ∨ isG N (w - 10)) → WI K (d + 8) mX9_on 31 [(2, 108), (0, n), (0, w), (9, 0)] [] c Q := fun hw' => by
    refine s_X9_on_31 n w (m_isYears (d := d + 5) hn (fun z => bz (h1 hw' z)) (fun a b => bo (m_save (d := d + 6) k (fun c4 t4 k4 _ => m_goYears (d := d + 1) (B := 2000000000) k4 ⟨a, by omega⟩ ⟨t4.2.1.2.2.2.2, by decide⟩ (fun p p0 p1 => by have := gu p p0 p1; omega) (by omega) (fun c6 h6 k6 => ?_)))))
    have t6 := TRL_S t4 h6.S
    have hc : ∀ c', eqS c c' → Q c' (r_on H N n w) := fun c' hq => h2 c' hw' a b hq.lo (hM.q hP hq)
    refine ⟨fun z => m_putBack (d := d + 6) t6 hM.2.1 (fun c' hq _ _ _ _ => ?_), fun z => ⟨hw, fun z2 => m_usesMore (d := d + 6) (N := N) t6 k.1 k6.1 (yr_0 (by decide)) (m_putBack (d := d + 6) t6 hM.2.1 (fun c' hq _ _ _ _ => ?_)), fun z2 => ⟨hw, ?_⟩⟩⟩
    · have := hc c' hq
      subst z
      rw [k6.1.2.2.2.2.2.1]; exact this
    · have := hc c' hq
      subst z2; exact this
    · have g : isG N (w - 10) := by rcases hw' with e | e | e; exact absurd e z; exact absurd e z2; exact e
      refine m_fond (d := d + 2) k6 (p := w - 10) (by rw [yr_0 (by decide)]; exact g) (fun c8 h8 k8 => m_putBack (d := d + 6) (TRL_S t6 h8.S) hM.2.1 (fun c' hq _ _ _ _ => ?_))
      have := hc c' hq
      unfold r_on at this
      rw [if_neg z, if_neg z2] at this
      exact this
  refine e_X9_on n w (s_X9_on_0 n w (m_in (d := d + 6) hw ir01.1 ⟨by decide, by decide⟩ (fun z => bz ?_) (fun a b => bo (go (by omega)))))
  rw [n6.1]
  exact m_in (d := d + 6) hw ⟨by decide, by decide⟩ ⟨by omega, by omega⟩ (fun z2 => bz (h0 (fun q => by unfold isG at q; omega))) (fun a b => bo (go (Or.inr (Or.inr ⟨by omega, by omega⟩))))
theorem n_soon {H : hf} {c N I X : ct} {K : SK} {d : Nat} {Q : ct → Int → Prop} (hM : MSR H c N I X) (hP : PU N I X) {q : Int} (hq : ir q) (h0 : ¬ (0 ≤ q ∧ q ≤ 6) → Q c (-2)) (h1 : ∀ c', 0 ≤ q → q ≤ 6 → loM c c' → MSR H c' N I X → Q c' (soR H q 61 N 0)) : CI K (d + 7) mX9_soon [(2, 108), (0, q)] c Q := by
  have k := hM.k hP
  obtain ⟨gD, gy, gu, gz⟩ := hP.g
  refine e_X9_soon q (s_X9_soon_0 q (m_in (d := d + 5) hq ir01.1 ⟨by decide, by decide⟩ (fun z => bz (h0 z)) (fun a b => bo (m_save (d := d + 5) k (fun c4 t4 k4 _ => ?_)))))
  have loop : ∀ (n : Nat) (y : Int) (M c1 : ct), y = 61 - n → 0 ≤ y → TRL c c1 → MK H c1 M → M 0 12 = N 0 12 + y → (∀ p, 0 ≤ p → p < M 0 10 → M 4 p ≤ M 0 12) → (∀ c', eqS c c' → Q c' (soR H q n M y)) → WI K (d + 7) mX9_soon 20 [(2, 108), (0, q), (0, y)] [] c1 Q := by
    intro n
    induction n with
    | zero =>
      intro y M c1 hy y0 t1 k1 e12 hu hQ
      refine s_X9_soon_20 q y ⟨⟨by omega, by omega⟩, fun _ => m_putBack (d := d + 5) t1 hM.2.1 (fun c' hq' _ _ _ _ => ⟨⟨by omega, by omega⟩, fun _ => hQ c' hq', fun z => absurd (by omega) z⟩), fun z => absurd (by omega) z⟩
    | succ n ih =>
      intro y M c1 hy y0 t1 k1 e12 hu hQ
      have e2 : c1 108 2 = emG M := k1.1.2.2.2.2.2.1
      have bb := (mk_bit (f := M 5) (n := M 0 10) (k := 0) k1.1.1.2 (fun p a b => (k1.1.2.2.2.2.2.2 p a b).2.2.2.2.1) ⟨by decide, by decide⟩).1
      have bb : 0 ≤ emG M ∧ emG M < 64 := bb
      have cr : 0 ≤ cnt6 (emG M) ∧ cnt6 (emG M) ≤ 6 := by unfold cnt6; omega
      refine s_X9_soon_20 q y ⟨⟨by omega, by omega⟩, fun z => absurd z (by omega), fun _ => ?_⟩
      rw [e2]
      refine m_bits (d := d + 4) bb ⟨⟨⟨by omega, by omega⟩, hq⟩, fun z => m_putBack (d := d + 5) t1 hM.2.1 (fun c' hq' _ _ _ _ => ⟨⟨by omega, by omega⟩, fun z2 => absurd z2 (by omega), fun _ => ?_⟩), fun z => m_goYear (d := d + 1) (B := 2000000000) k1 ⟨t1.2.1.2.2.2.2, by decide⟩ (fun p p0 p1 => by have := hu p p0 p1; omega) (by omega) (fun c' ho k' => ?_)⟩
      · have := hQ c' hq'
        rw [soR, if_pos z] at this
        exact this
      · refine ih (y + 1) (yrG H M 1) c' (by omega) (by omega) (TRL_S t1 ho.S) k' (by rw [yr_12]; omega) (UY_yr k1.1 hu) (fun c2 hq2 => ?_)
        have := hQ c2 hq2
        rw [soR, if_neg z] at this
        exact this
  exact loop 61 0 N c4 (by decide) (by decide) t4 k4 (by omega) gu (fun c' hq' => h1 c' a b hq'.lo (hM.q hP hq'))
theorem m_allFondL {H : hf} {c G : ct} {K : SK} {d : Nat} {Q : ct → Int → Prop} (hK : MK H c G) (h : ∀ c', offL c c' → MK H c' G → LKD H c' G → Q c' (allG H G (G 0 12))) : CI K (d + 6) mX9_allFond [(2, 108)] c Q :=
  e_X9_allFond (s_X9_allFond_0 (m_layLikes (d := d + 1) hK (fun c1 h1 k1 l1 => m_allFondBy k1.1 k1.cl k1.win l1 (h c1 h1 k1 l1))))
theorem LKD_c {H : hf} {c c' G : ct} (h : LKD H c G) (e : ∀ j, c' 124 j = c 124 j) : LKD H c' G := fun p o a b a2 b2 ne => by rw [e]; exact h p o a b a2 b2 ne
theorem LKD_mv {H : hf} {c G : ct} {g s : Int} (h : LKD H c G) : LKD H c (mvG G g s) := h
theorem n_change {H : hf} {c N I X : ct} {K : SK} {d : Nat} {Q : ct → Int → Prop} (hM : MSR H c N I X) (hP : PU N I X) (h : ∀ c', loM c c' → MSR H c' N I X → Q c' (chO H N (N 0 10).toNat 0 (-5) (allG H N (N 0 12)))) : CI K (d + 7) mX9_change [(2, 108)] c Q := by
  have k := hM.k hP
  obtain ⟨e0, n0, n6⟩ := k.1.1
  have hD := hP.1.1
  have kq : ∀ c1, eqS c c1 → MK H c1 N := fun c1 hq => MK_congr k (fun j a => hq 108 j (by unfold sqP; omega)) (fun k a b j => hq k j (by unfold sqP; omega))
  have inner : ∀ (n : Nat) (i o f g : Int) (c1 : ct), o = N 0 10 - n → 0 ≤ i → i < o → i < N 0 10 → ir g → eqS c c1 → LKD H c1 N → (∀ c2, eqS c c2 → LKD H c2 N → ir (chI H N i n o f g).2 → WI K (d + 7) mX9_change 10 [(2, 108), (0, (chI H N i n o f g).1), (0, (chI H N i n o f g).2), (0, i + 1), (9, 0), (9, 0)] [] c2 Q) → WI K (d + 7) mX9_change 23 [(2, 108), (0, f), (0, g), (0, i), (0, o), (9, 0)] [] c1 Q := by
    intro n
    induction n with
    | zero =>
      intro i o f g c1 ho i0 io iN hg hq hl hw
      refine s_X9_change_23 f g i o ?_
      rw [(kq c1 hq).1.1.1]
      exact ⟨⟨⟨by omega, by omega⟩, ⟨by omega, by omega⟩⟩, fun _ => hw c1 hq hl hg, fun z => absurd (by omega) z⟩
    | succ n ih =>
      intro i o f g c1 ho i0 io iN hg hq hl hw
      have k1 := kq c1 hq
      refine s_X9_change_23 f g i o ?_
      rw [k1.1.1.1]
      refine ⟨⟨⟨by omega, by omega⟩, ⟨by omega, by omega⟩⟩, fun z => absurd z (by omega), fun _ => m_save (d := d + 5) k1 (fun c3 t3 k3 f3 => ⟨⟨by omega, by omega⟩, ?_⟩)⟩
      have ro := (k3.1.2.2.2.2.2.2 o (by omega) (by omega)).2.2.1
      rw [ro.1]
      refine m_takesSeat (d := d + 4) k3.1 hD ⟨i0, iN⟩ ro.2 (fun c6 h6 T6 => ?_)
      have k6 : MK H c6 (mvG N i (N 3 o)) := ⟨T6, MHR.w k3.2 (fun k j w => h6 k j (by omega))⟩
      have l6 : LKD H c6 (mvG N i (N 3 o)) := LKD_mv (LKD_c hl (fun j => by rw [h6 124 j (by omega), f3 124 (by decide) (by decide) (by decide)]))
      refine m_allFondBy (d := d + 1) k6.1 k6.cl k6.win l6 (m_putBack (d := d + 5) (TRL_S t3 (fun k j w => h6 k j (fun q => w (by unfold stP; omega)))) (by rw [hq 108 29 (by unfold sqP; omega)]; exact hM.2.1) (fun c10 q10 _ _ _ f10 => ?_))
      have q10' := hq.trans q10
      have l10 : LKD H c10 N := LKD_c (c := c6) l6 f10
      have ra : ir (allG H (mvG N i (N 3 o)) (N 0 12)) := all_rng k6
      rw [chI] at hw
      refine ⟨⟨ra, hg⟩, fun z => ?_, fun z => ?_⟩
      · have z : g < allG H (mvG N i (N 3 o)) (N 0 12) := z
        rw [if_neg (by omega)] at hw
        exact ih i (o + 1) _ _ c10 (by omega) i0 (by omega) iN ra q10' l10 hw
      · have z : ¬ g < allG H (mvG N i (N 3 o)) (N 0 12) := z
        rw [if_pos (by omega)] at hw
        exact ih i (o + 1) _ _ c10 (by omega) i0 (by omega) iN hg q10' l10 hw
  have outer : ∀ (n : Nat) (i f g : Int) (c1 : ct), i = N 0 10 - n → 0 ≤ i → ir g → eqS c c1 → LKD H c1 N → (∀ c2, eqS c c2 → Q c2 (chO H N n i f g)) → WI K (d + 7) mX9_change 10 [(2, 108), (0, f), (0, g), (0, i), (9, 0), (9, 0)] [] c1 Q := by
    intro n
    induction n with
    | zero =>
      intro i f g c1 hi i0 hg hq hl hQ
      refine s_X9_change_10 f g i ?_
      rw [(kq c1 hq).1.1.1]
      exact ⟨⟨⟨by omega, by omega⟩, ⟨by omega, by omega⟩⟩, fun _ => hQ c1 hq, fun z => absurd (by omega) z⟩
    | succ n ih =>
      intro i f g c1 hi i0 hg hq hl hQ
      refine s_X9_change_10 f g i ?_
      rw [(kq c1 hq).1.1.1]
      refine ⟨⟨⟨by omega, by omega⟩, ⟨by omega, by omega⟩⟩, fun z => absurd z (by omega), fun _ => inner n i (i + 1) f g c1 (by omega) i0 (by omega) (by omega) hg hq hl (fun c2 q2 l2 g2 => ih (i + 1) _ _ c2 (by omega) (by omega) g2 q2 l2 (fun c3 q3 => ?_))⟩
      have := hQ c3 q3
      rw [chO] at this
      exact this
  refine e_X9_change (s_X9_change_0 (m_allFondL (d := d) k (fun c1 h1 k1 l1 => outer (N 0 10).toNat 0 (-5) _ c1 (by omega) (by decide) (all_rng k1) h1.q l1 (fun c2 q2 => h c2 q2.lo (hM.q hP q2)))))
theorem n_seat {H : hf} {c N I X : ct} {K : SK} {d : Nat} {Q : ct → Int → Prop} (hM : MSR H c N I X) (hP : PU N I X) {p : Int} (hp : ir p) (h0 : ¬ isG N p → Q c (-1)) (h1 : ∀ c', isG N p → loM c c' → MSR H c' N I X → Q c' (stR H N p 6 0 0 0)) : CI K (d + 5) mX9_seat [(2, 108), (0, p)] c Q := by
  have k := hM.k hP
  obtain ⟨e0, n0, n6⟩ := k.1.1
  have hD := hP.1.1
  have kq : ∀ c1, eqS c c1 → MK H c1 N := fun c1 hq => MK_congr k (fun j a => hq 108 j (by unfold sqP; omega)) (fun k a b j => hq k j (by unfold sqP; omega))
  refine e_X9_seat p (s_X9_seat_0 p (m_isGuest (d := d + 2) hp k.1.1 (fun z => bz (h0 z)) (fun a b => bo (m_layLikes (d := d) k (fun c1 o1 k1 l1 => ?_)))))
  have loop : ∀ (n : Nat) (s f g f' g' : Int) (c1 : ct), s = 6 - n → 0 ≤ s → (s = 0 ∧ f = -5 ∨ 0 < s ∧ 0 ≤ f ∧ f < 6 ∧ f' = f ∧ g' = g) → ir g → eqS c c1 → LKD H c1 N → (∀ c2, eqS c c2 → Q c2 (stR H N p n s f' g')) → WI K (d + 5) mX9_seat 22 [(2, 108), (0, p), (0, f), (0, g), (0, s), (9, 0)] [] c1 Q := by
    intro n
    induction n with
    | zero =>
      intro s f g f' g' c1 hs s0 hf hg hq hl hQ
      have := hQ c1 hq
      refine s_X9_seat_22 p f g s ⟨⟨by omega, by omega⟩, fun _ => ?_, fun z => absurd (by omega) z⟩
      have e : f' = f := by omega
      rw [stR, e] at this
      exact this
    | succ n ih =>
      intro s f g f' g' c1 hs s0 hf hg hq hl hQ
      have k1 := kq c1 hq
      refine s_X9_seat_22 p f g s ⟨⟨by omega, by omega⟩, fun z => absurd z (by omega), fun _ => m_save (d := d + 3) k1 (fun c3 t3 k3 f3 => m_takesSeat (d := d + 2) k3.1 hD ⟨a, b⟩ ⟨s0, by omega⟩ (fun c6 h6 T6 => ?_))⟩
      have k6 : MK H c6 (mvG N p s) := ⟨T6, MHR.w k3.2 (fun k j w => h6 k j (by omega))⟩
      have l6 : LKD H c6 (mvG N p s) := LKD_mv (LKD_c hl (fun j => by rw [h6 124 j (by omega), f3 124 (by decide) (by decide) (by decide)]))
      refine m_fondBy (d := d) k6.1 k6.cl k6.win (fun o o0 o1 ne => l6 p o a b o0 o1 ne) ⟨a, b⟩ (m_putBack (d := d + 3) (TRL_S t3 (fun k j w => h6 k j (fun q => w (by unfold stP; omega)))) (by rw [hq 108 29 (by unfold sqP; omega)]; exact hM.2.1) (fun c10 q10 _ _ _ f10 => ?_))
      have q10' := hq.trans q10
      have l10 : LKD H c10 N := LKD_c (c := c6) l6 f10
      have rf : ir (fdG H (mvG N p s) (N 0 12) p) := fd_rng k6 ⟨a, b⟩
      have take : (s = 0 ∨ ¬ fdG H (mvG N p s) (N 0 12) p ≤ g') → WI K (d + 5) mX9_seat 22 [(2, 108), (0, p), (0, s), (0, fdG H (mvG N p s) (N 0 12) p), (0, s + 1), (9, 0)] [] c10 Q := fun z =>
        ih (s + 1) s _ s _ c10 (by omega) (by omega) (Or.inr ⟨by omega, s0, by omega, rfl, rfl⟩) rf q10' l10 (fun c2 q2 => by
          have := hQ c2 q2
          rw [stR, if_pos z] at this
          exact this)
      refine ⟨⟨by omega, by omega⟩, fun z => take (Or.inl (by omega)), fun z => ⟨⟨rf, hg⟩, fun z2 => take (Or.inr (fun q => ?_)), fun z2 => ?_⟩⟩
      · have z2 : g < fdG H (mvG N p s) (N 0 12) p := z2
        omega
      · have z2 : ¬ g < fdG H (mvG N p s) (N 0 12) p := z2
        refine ih (s + 1) f g f' g' c10 (by omega) (by omega) (Or.inr (by omega)) hg q10' l10 (fun c2 q2 => ?_)
        have := hQ c2 q2
        rw [stR, if_neg (by omega)] at this
        exact this
  exact loop 6 0 (-5) 0 0 0 c1 (by decide) (by decide) (Or.inl ⟨rfl, rfl⟩) ir01.1 o1.q l1 (fun c2 q2 => h1 c2 ⟨a, b⟩ q2.lo (hM.q hP q2))
