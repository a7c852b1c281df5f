/-! CONTRACTS: the reference's undo, odds, means, ends -/
theorem n_undo {H : hf} {c N I X : ct} {K : SK} {d : Nat} {Q : ct → Int → Prop} (hM : MSR H c N I X) (hP : PU N I X) (h0 : X 0 0 = 0 → Q c (-3)) (h : ∀ c', X 0 0 = 1 → loM c c' → MSR H c' I I X → Q c' (I 0 10)) : CI K (d + 1) mX9_undo [(2, 108)] c Q := by
  obtain ⟨m1, m29, m3, m4, x0, x1, x2, x3, x4, x5, x6⟩ := hM
  refine e_X9_undo (s_X9_undo_0 ?_)
  rw [x0]
  have hx := hP.2.2.1
  refine ⟨fun z => h0 z, fun z => ⟨ir_01 hx, fun c2 h2 c3 h3 c4 h4 c5 h5 c6 h6 c7 h7 c8 h8 c9 h9 c10 h10 => ?_⟩⟩
  have f10 : ∀ k j, c10 k j = if k = 108 ∧ j = 45 then c 108 59 else if k = 108 ∧ j = 44 then c 108 58 else if k = 108 ∧ j = 39 then c 108 57 else if k = 108 ∧ j = 4 then c 108 56 else if k = 108 ∧ j = 3 then c 108 55 else if k = 108 ∧ j = 2 then c 108 54 else if k = 108 ∧ j = 1 then c 108 53 else if k = 108 ∧ j = 0 then c 108 52 else if k = 108 ∧ j = 11 then c 108 51 else c k j := fun k j => by
    subst h2; subst h3; subst h4; subst h5; subst h6; subst h7; subst h8; subst h9; subst h10
    simp [up2]
  have fr : ∀ k j, ¬ (k = 108 ∧ ((0 ≤ j ∧ j ≤ 4) ∨ j = 11 ∨ j = 39 ∨ j = 44 ∨ j = 45)) → c10 k j = c k j := fun k j a => by
    rw [f10, if_neg (by omega), if_neg (by omega), if_neg (by omega), if_neg (by omega), if_neg (by omega), if_neg (by omega), if_neg (by omega), if_neg (by omega), if_neg (by omega)]
  refine k_undo (fun i a b => by rw [fr 147 i (by omega)]; exact (m3.2.1.2 i a b).1) (fun c1' hI => ?_)
  obtain ⟨i0, i1, i2, i3, i4, i5⟩ := hI
  have g0 : ∀ k j, ¬ (k = 108 ∧ ((0 ≤ j ∧ j ≤ 4) ∨ j = 11 ∨ j = 39 ∨ j = 44 ∨ j = 45)) → ¬ ((109 ≤ k ∧ k ≤ 113) ∨ (128 ≤ k ∧ k ≤ 130) ∨ (132 ≤ k ∧ k ≤ 135)) → c1' k j = c k j := fun k j a b => by rw [i0 k j b]; exact fr k j a
  have e8 : ∀ j, c1' 108 j = c10 108 j := fun j => i0 108 j (by omega)
  have hv : MS c1' I := MS_congr m3 hP.2.1.2.2.1 (fun k j a => by
    unfold evP at a
    rcases a with ⟨rfl, a⟩ | ⟨a1, a2, a3, a4⟩ | ⟨rfl, a1, a2⟩ | ⟨a1, a2, a3, a4⟩ | ⟨a1, a2, a3, a4⟩ | ⟨a1, a2, a3, a4⟩
    · rw [vw_108, e8]
      have : j = 0 ∨ j = 1 ∨ j = 2 ∨ j = 3 ∨ j = 4 ∨ j = 11 ∨ j = 39 ∨ j = 44 ∨ j = 45 := by omega
      rcases this with rfl | rfl | rfl | rfl | rfl | rfl | rfl | rfl | rfl <;> simp [f10]
    · have : k = 109 ∨ k = 110 ∨ k = 111 ∨ k = 112 := by omega
      have b := i1 j a3 a4
      rcases this with rfl | rfl | rfl | rfl
      · show c1' 109 j = c 136 j; rw [b.1]; exact fr 136 j (by omega)
      · show c1' 110 j = c 137 j; rw [b.2.1]; exact fr 137 j (by omega)
      · show c1' 111 j = c 138 j; rw [b.2.2.1]; exact fr 138 j (by omega)
      · show c1' 112 j = c 139 j; rw [b.2.2.2]; exact fr 139 j (by omega)
    · show c1' 113 j = c 140 j; rw [i2 j a1 a2]; exact fr 140 j (by omega)
    · have : k = 128 ∨ k = 129 ∨ k = 130 := by omega
      have b := i3 j a3 a4
      rcases this with rfl | rfl | rfl
      · show c1' 128 j = c 141 j; rw [b.1]; exact fr 141 j (by omega)
      · show c1' 129 j = c 142 j; rw [b.2.2]; exact fr 142 j (by omega)
      · show c1' 130 j = c 147 j; rw [b.2.1]; exact fr 147 j (by omega)
    · have : k = 132 ∨ k = 133 := by omega
      have b := i4 j a3 a4
      rcases this with rfl | rfl
      · show c1' 132 j = c 143 j; rw [b.1]; exact fr 143 j (by omega)
      · show c1' 133 j = c 144 j; rw [b.2]; exact fr 144 j (by omega)
    · have : k = 134 ∨ k = 135 := by omega
      have b := i5 j a3 a4
      rcases this with rfl | rfl
      · show c1' 134 j = c 145 j; rw [b.1]; exact fr 145 j (by omega)
      · show c1' 135 j = c 146 j; rw [b.2]; exact fr 146 j (by omega))
  rw [hv.1.1.1]
  exact h c1' (by omega) (fun k w j => g0 k j (by omega) (by omega)) (MSR_now (N := N) ⟨m1, m29, m3, m4, x0, x1, x2, x3, x4, x5, x6⟩ (fun k j a => g0 k j (fun q => a (by unfold nowP; omega)) (fun q => a (by unfold nowP; omega))) hv)
theorem m_divisor {c : ct} {K : SK} {d : Nat} {Q : ct → Int → Prop} {a : Int} {b : Nat} (ha : ir a) (hb : b ≤ 100) (h : Q c ((Nat.gcd a.natAbs b : Nat) : Int)) (hm : a ≠ -2147483648) : CI K (d + 1) mX9_divisor [(2, 108), (0, a), (0, (b : Int))] c Q := by
  have loop : ∀ (q : Nat), ∀ (p : Nat), q ≤ 100 → ir (p : Int) → Q c ((Nat.gcd p q : Nat) : Int) → WI K (d + 1) mX9_divisor 14 [(9, 0), (9, 0), (9, 0), (0, (p : Int)), (0, (q : Int)), (9, 0)] [] c Q := by
    intro q
    induction q using Nat.strongRecOn with
    | _ q ih =>
      intro p hq hp hQ
      refine s_X9_divisor_14 p q ⟨fun z => ?_, fun z => ⟨⟨by omega, by omega⟩, ⟨by omega, hp, ⟨by omega, by omega⟩⟩, ?_⟩⟩
      · have : q = 0 := by omega
        subst this
        rw [Nat.gcd_zero_right] at hQ
        exact hQ
      · have e : Int.tmod (p : Int) (q : Int) = ((p % q : Nat) : Int) := by
          rw [Int.tmod_eq_emod_of_nonneg (by omega)]
          exact (Int.natCast_emod p q).symm
        have lt : p % q < q := Nat.mod_lt _ (by omega)
        rw [e]
        refine ih (p % q) lt q (by omega) ⟨by omega, by omega⟩ ?_
        rw [Nat.gcd_comm, ← Nat.gcd_rec, Nat.gcd_comm]
        exact hQ
  refine e_X9_divisor a b (s_X9_divisor_0 a b ⟨ha, fun z => ?_, fun z => ?_⟩)
  · have e : a = (a.natAbs : Int) := by omega
    have hr : ir (a.natAbs : Int) := by rw [← e]; exact ha
    have := loop b a.natAbs hb hr h
    rw [← e] at this
    exact this
  · have e : -a = (a.natAbs : Int) := by omega
    have hr : ir (a.natAbs : Int) := ⟨by omega, by have := ha.1; omega⟩
    have := loop b a.natAbs hb hr h
    rw [← e] at this
    exact this
theorem m_lowest {c : ct} {K : SK} {d : Nat} {Q : ct → Int → Prop} {a b w : Int} (ha : ir a) (hm : a ≠ -2147483648) (hb : 0 < b ∧ b ≤ 6) (hw : 0 ≤ w ∧ w ≤ 1) (h : Q c (loG a b w)) : CL K (d + 2) mX9_lowest [(2, 108), (0, a), (0, b), (0, w)] c Q := by
  have eb : b = (b.toNat : Int) := by omega
  refine e_X9_lowest a b w (s_X9_lowest_0 a b w ?_)
  have key : CI K (d + 1) mX9_divisor [(2, 108), (0, a), (0, (b.toNat : Int))] c (fun c1 r2 => (w = 0 → (0 < r2 ∧ ir a ∧ ir r2) ∧ (ir (Int.tdiv a r2)) ∧ Q c1 (Int.tdiv a r2)) ∧ (¬ (w = 0) → ir w ∧ (0 < r2 ∧ ir b ∧ ir r2) ∧ (ir (Int.tdiv b r2)) ∧ Q c1 (Int.tdiv b r2))) := by
    refine m_divisor ha (by omega) ?_ hm
    have g1 : 0 < Nat.gcd a.natAbs b.toNat := Nat.gcd_pos_of_pos_right _ (by omega)
    have g2 : Nat.gcd a.natAbs b.toNat ≤ b.toNat := Nat.le_of_dvd (by omega) (Nat.gcd_dvd_right _ _)
    have eg : Int.gcd a b = Nat.gcd a.natAbs b.toNat := by
      show Nat.gcd a.natAbs b.natAbs = _
      rw [show b.natAbs = b.toNat by omega]
    have g0 : (0 : Int) < ((Nat.gcd a.natAbs b.toNat : Nat) : Int) := by omega
    have rg : ir ((Nat.gcd a.natAbs b.toNat : Nat) : Int) := ⟨by omega, by omega⟩
    have rb : ir b := ⟨by omega, by omega⟩
    unfold loG at h
    rw [eg] at h
    refine ⟨fun z => ⟨⟨g0, ha, rg⟩, td_r ha g0, ?_⟩, fun z => ⟨⟨by omega, by omega⟩, ⟨g0, rb, rg⟩, td_r rb g0, ?_⟩⟩
    · rw [if_pos z] at h; exact h
    · rw [if_neg z] at h; exact h
  rw [← eb] at key
  exact key
theorem n_mean {H : hf} {c N I X : ct} {K : SK} {d : Nat} {Q : ct → Int → Prop} (hM : MSR H c N I X) (hP : PU N I X) {w : Int} (hw : ir w) (h0 : ¬ (0 < N 0 10 ∧ 0 ≤ w ∧ w ≤ 1) → Q c (-9223372036854775808)) (h1 : ∀ c', 0 < N 0 10 → 0 ≤ w → w ≤ 1 → loM c c' → MSR H c' N I X → Q c' (loG (allG H N (N 0 12)) (N 0 10) w)) : CL K (d + 7) mX9_mean [(2, 108), (0, w)] c Q := by
  have k := hM.k hP
  have n6 := k.1.1
  refine e_X9_mean w (s_X9_mean_0 w (m_in (d := d + 5) hw ir01.1 ⟨by decide, by decide⟩ (fun z => bz (h0 (fun q => z q.2))) (fun a b => bo ?_)))
  rw [n6.1]
  refine ⟨⟨by omega, by omega⟩, fun z => h0 (by omega), fun z => m_allFond (d := d) k (fun c' ho k' => ?_)⟩
  rw [k'.1.1.1]
  have ab := all_b (Y := N 0 12) k'
  exact m_lowest (d := d + 4) ⟨by omega, by omega⟩ (by omega) ⟨by omega, n6.2.2⟩ ⟨a, b⟩ (h1 c' (by omega) a b ho.q.lo (hM.q hP ho.q))
theorem n_odds {H : hf} {c N I X : ct} {K : SK} {d : Nat} {Q : ct → Int → Prop} (hM : MSR H c N I X) (hP : PU N I X) {q w : Int} (hq : ir q) (hw : ir w) (h0 : ¬ ((0 ≤ q ∧ q ≤ 999) ∧ 0 < N 0 10 ∧ 0 ≤ w ∧ w ≤ 1) → Q c (-9223372036854775808)) (h1 : ∀ c', 0 ≤ q → q ≤ 999 → 0 < N 0 10 → 0 ≤ w → w ≤ 1 → loM c c' → MSR H c' N I X → Q c' (loG (odR H N q (N 0 10).toNat 0 0) (N 0 10) w)) : CL K (d + 7) mX9_odds [(2, 108), (0, q), (0, w)] c Q := by
  have k := hM.k hP
  have n6 := k.1.1
  refine e_X9_odds q w (s_X9_odds_0 q w (m_in (d := d + 5) hq ir01.1 ⟨by decide, by decide⟩ (fun z => bz (h0 (fun q => z q.1))) (fun q0 q9 => bo (m_in (d := d + 5) hw ir01.1 ⟨by decide, by decide⟩ (fun z => bz (h0 (fun q => z q.2.2))) (fun a b => bo ?_)))))
  rw [n6.1]
  refine ⟨fun z => h0 (by omega), fun z => ⟨⟨by omega, by omega⟩, ?_⟩⟩
  have loop : ∀ (n : Nat) (p m : Int) (c1 : ct), p = N 0 10 - n → 0 ≤ p → 0 ≤ m → m ≤ p → eqS c c1 → (∀ c2, eqS c c2 → 0 ≤ odR H N q n p m → odR H N q n p m ≤ 6 → Q c2 (loG (odR H N q n p m) (N 0 10) w)) → WLg K (d + 7) mX9_odds 44 [(2, 108), (0, q), (0, w), (0, m), (0, c 108 1), (0, p)] [] c1 Q := by
    intro n
    induction n with
    | zero =>
      intro p m c1 hp p0 m0 mp he hQ
      refine s_X9_odds_44 q w m _ p ?_
      rw [he 108 0 (by unfold sqP; omega), n6.1]
      exact ⟨⟨⟨by omega, by omega⟩, ⟨by omega, by omega⟩⟩, fun _ => m_lowest (d := d + 4) ⟨by omega, by omega⟩ (by omega) ⟨by omega, n6.2.2⟩ ⟨a, b⟩ (hQ c1 he (by show 0 ≤ m; omega) (by show m ≤ 6; omega)), fun y => absurd (by omega) y⟩
    | succ n ih =>
      intro p m c1 hp p0 m0 mp he hQ
      have pn : p < N 0 10 := by omega
      have k1 : MK H c1 N := MK_congr k (fun j a => he 108 j (by unfold sqP; omega)) (fun k a b j => he k j (by unfold sqP; omega))
      refine s_X9_odds_44 q w m _ p ?_
      rw [he 108 0 (by unfold sqP; omega), n6.1]
      refine ⟨⟨⟨by omega, by omega⟩, ⟨by omega, by omega⟩⟩, fun y => absurd y (by omega), fun _ => m_goes (d := d + 5) k1.1 ⟨p0, pn⟩ (Or.inr rfl) (fun hT => ?_)⟩
      have k5 : MK H (up2 c1 108 1 (mkR (goG N p 1 6) (N 0 10))) (goG N p 1) := ⟨hT, MHR.w k1.2 (fun k j w => up2_ne1 (by omega))⟩
      refine m_allFond (d := d) k5 (fun c7 h7 k7 => ?_)
      have ra : ir (allG H (goG N p 1) (N 0 12)) := all_rng k7
      have back : eqS c (up2 c7 108 1 (c 108 1)) := fun kk j y => by
        by_cases z : kk = 108 ∧ j = 1
        · obtain ⟨rfl, rfl⟩ := z; rw [up2_self]
        · rw [show up2 c7 108 1 (c 108 1) kk j = c7 kk j from if_neg z, h7 kk (fun q => y (by unfold sqP; omega)) (fun q => y (by unfold sqP; omega)) j, show up2 c1 108 1 (mkR (goG N p 1 6) (N 0 10)) kk j = c1 kk j from if_neg z]
          exact he kk j y
      rw [odR] at hQ
      refine ⟨⟨ra, hq⟩, fun y c11 h11 => ?_, fun y c11 h11 => ?_⟩
      · have y : allG H (goG N p 1) (N 0 12) < q := y
        rw [if_pos y] at hQ
        subst h11
        rw [Int.add_zero]
        exact ih (p + 1) m _ (by omega) (by omega) m0 (by omega) back hQ
      · have y : ¬ allG H (goG N p 1) (N 0 12) < q := y
        rw [if_neg y] at hQ
        subst h11
        exact ih (p + 1) (m + 1) _ (by omega) (by omega) (by omega) (by omega) back hQ
  exact loop (N 0 10).toNat 0 0 c (by omega) (by decide) (by decide) (by decide) eqS.rf (fun c2 he o0 o6 => h1 c2 q0 q9 (by omega) a b he.lo (hM.q hP he))
theorem n_ends {H : hf} {c N I X : ct} {K : SK} {d : Nat} {Q : ct → Int → Prop} (hM : MSR H c N I X) (hP : PU N I X) {w : Int} (hw : ir w) (h0 : ¬ (0 ≤ w ∧ w ≤ 1) → Q c (-1)) (h1 : ∀ c', 0 ≤ w → w ≤ 1 → loM c c' → MSR H c' N I X → Q c' (if w = 0 then emG (enR H N (N 0 24).toNat 0 N) else usG (enR H N (N 0 24).toNat 0 N) - usG N)) : CI K (d + 7) mX9_ends [(2, 108), (0, w)] c Q := by
  have k := hM.k hP
  obtain ⟨gD, gy, gu, gz⟩ := hP.g
  have hI := hP.1.2.1.2.2.1
  obtain ⟨pl0, pl1⟩ := hM.1.2.2.1
  have hz := gz.2.1
  refine e_X9_ends w (s_X9_ends_0 w (m_in (d := d + 5) hw ir01.1 ⟨by decide, by decide⟩ (fun z => bz (h0 z)) (fun a b => bo (m_save (d := d + 5) k (fun c4 t4 k4 _ => ?_)))))
  have loop : ∀ (n : Nat) (i : Int) (M c1 : ct), i = N 0 24 - n → 0 ≤ i → TRL c c1 → MK H c1 M → DS M → M 0 10 = N 0 10 → (0 ≤ M 0 12 ∧ M 0 12 ≤ N 0 12 + i) → (∀ p, 0 ≤ p → p < M 0 10 → M 4 p ≤ M 0 12) → (∀ c', eqS c c' → Q c' (if w = 0 then emG (enR H N n i M) else usG (enR H N n i M) - usG N)) → WI K (d + 7) mX9_ends 18 [(2, 108), (0, w), (0, i)] [] c1 Q := by
    intro n
    induction n with
    | zero =>
      intro i M c1 hi i0 t1 k1 dM e10 e12 uM hQ
      refine s_X9_ends_18 w i ?_
      rw [t1.1 108 44 (by unfold trP; omega), pl0]
      refine ⟨⟨⟨by omega, by omega⟩, ⟨by omega, by omega⟩⟩, fun _ => ⟨fun z => m_putBack (d := d + 5) t1 hM.2.1 (fun c' hq _ _ _ _ => ?_), fun z => ⟨hw, m_usesMore (d := d + 5) (N := N) t1 k.1 k1.1 e10 (m_putBack (d := d + 5) t1 hM.2.1 (fun c' hq _ _ _ _ => ?_))⟩⟩, fun z => absurd (by omega) z⟩
      · have := hQ c' hq
        rw [if_pos z] at this
        rw [k1.1.2.2.2.2.2.1]; exact this
      · have := hQ c' hq
        rw [if_neg z] at this
        exact this
    | succ n ih =>
      intro i M c1 hi i0 t1 k1 dM e10 e12 uM hQ
      have hi2 := hI i i0 (by omega)
      have pli := pl1 i i0 (by omega)
      have i10 : 0 ≤ i ∧ i < 10 := ⟨i0, by omega⟩
      rw [enR] at hQ
      have c132 : ∀ c2, TRL c c2 → c2 132 i = N 25 i ∧ c2 133 i = if 0 < N 25 i then N 26 i else 0 := fun c2 t2 => by
        rw [t2.1 132 i (by unfold trP; omega), t2.1 133 i (by unfold trP; omega)]; exact pli
      have nxt : ∀ (M' c2 : ct), M' = plS H N M i → TRL c c2 → MK H c2 M' → DS M' → M' 0 10 = N 0 10 → (0 ≤ M' 0 12 ∧ M' 0 12 ≤ N 0 12 + i + 1) → (∀ p, 0 ≤ p → p < M' 0 10 → M' 4 p ≤ M' 0 12) → WI K (d + 7) mX9_ends 18 [(2, 108), (0, w), (0, i + 1)] [] c2 Q := fun M' c2 e t2 k2 d2 e2 f2 u2 => by
        subst e
        exact ih (i + 1) _ c2 (by omega) (by omega) t2 k2 d2 e2 (by omega) u2 hQ
      have at79 : ¬ N 25 i = 3 → ∀ (M' c2 : ct), M' = plS H N M i → TRL c c2 → MK H c2 M' → DS M' → M' 0 10 = N 0 10 → (0 ≤ M' 0 12 ∧ M' 0 12 ≤ N 0 12 + i + 1) → (∀ p, 0 ≤ p → p < M' 0 10 → M' 4 p ≤ M' 0 12) → WI K (d + 7) mX9_ends 79 [(2, 108), (0, w), (0, i)] [] c2 Q := fun n3 M' c2 e t2 k2 d2 e2 f2 u2 => by
        refine s_X9_ends_79 w i ?_
        rw [(c132 c2 t2).1]
        exact ⟨i10, fun z => absurd z n3, fun _ => ⟨⟨by omega, by omega⟩, nxt M' c2 e t2 k2 d2 e2 f2 u2⟩⟩
      refine s_X9_ends_18 w i ?_
      rw [t1.1 108 44 (by unfold trP; omega), pl0, (c132 c1 t1).1]
      refine ⟨⟨⟨by omega, by omega⟩, ⟨by omega, by omega⟩⟩, fun z => absurd z (by omega), fun _ => ⟨i10, fun z => m_goYear (d := d + 1) (B := 2000000000) k1 ⟨t1.2.1.2.2.2.2, by decide⟩ (fun p p0 p1 => by have := uM p p0 p1; omega) (by omega) (fun c2 h2 k2 => ?_), fun z => ⟨⟨by omega, by omega⟩, ?_⟩⟩⟩
      · have t2 := TRL_S t1 h2.S
        refine s_X9_ends_39 w i ?_
        rw [(c132 c2 t2).1]
        refine ⟨i10, m_in (d := d + 5) ⟨by omega, by omega⟩ ⟨by decide, by decide⟩ ⟨by decide, by decide⟩ (fun y => bz (at79 (by omega) (yrG H M 1) c2 (by unfold plS; rw [if_pos z]) t2 k2 (DS_yr dM) (by rw [yr_0 (by decide)]; exact e10) (by rw [yr_12]; omega) (UY_yr k1.1 uM))) (fun y1 y2 => by omega)⟩
      · refine s_X9_ends_39 w i ?_
        rw [(c132 c1 t1).1]
        refine ⟨i10, m_in (d := d + 5) ⟨by omega, by omega⟩ ⟨by decide, by decide⟩ ⟨by decide, by decide⟩ (fun y => bz ?_) (fun y1 y2 => bo ?_)⟩
        · have e3 : N 25 i = 3 := by omega
          refine s_X9_ends_79 w i ?_
          rw [(c132 c1 t1).1, (c132 c1 t1).2, if_pos (by omega)]
          refine ⟨i10, fun _ => ⟨i10, m_pours (d := d + 4) k1.1 dM (hi2.2.2 e3) (fun c2 h2 T2 => ?_)⟩, fun y3 => absurd e3 y3⟩
          have k2 : MK H c2 (poG M (N 26 i)) := ⟨T2, MHR.w k1.2 (fun k j w => h2 k j (by omega))⟩
          exact nxt (poG M (N 26 i)) c2 (by unfold plS; rw [if_neg (by omega), if_pos e3]) (TRL_S t1 (fun k j w => h2 k j (fun q => w (by unfold stP; omega)))) k2 (DS_same dM (poG_n (by decide)) (fun _ => rfl)) (by rw [poG_n (by decide)]; exact e10) (by rw [poG_n (by decide)]; omega) (fun p p0 p1 => by rw [poG_n (by decide)] at p1; rw [poG_n (by decide)]; exact uM p p0 p1)
        · rw [(c132 c1 t1).1, (c132 c1 t1).2, if_pos (by omega)]
          have hg := hi2.2.1 (by omega)
          have gofin : ∀ v, (v = 0 ∨ v = 1) → v = (if N 25 i = 1 then 1 else 0) → CV K (d + 6) mX9_goes [(2, 108), (0, N 26 i), (0, v)] c1 (fun c8 => WI K (d + 7) mX9_ends 79 [(2, 108), (0, w), (0, i)] [] c8 Q) := fun v hv ev => by
            refine m_goes (d := d + 5) k1.1 (by rw [e10]; exact hg) hv (fun hT => ?_)
            exact at79 (by omega) (goG M (N 26 i) v) _ (by unfold plS; rw [if_neg (by omega), if_neg (by omega), ev]) (TRL_S t1 (fun k j w => if_neg (fun q => w (by unfold stP; omega)))) ⟨hT, MHR.w k1.2 (fun k j w => up2_ne1 (by omega))⟩ (DS_same dM rfl (fun _ => rfl)) e10 (by show 0 ≤ M 0 12 ∧ M 0 12 ≤ N 0 12 + i + 1; omega) uM
          exact ⟨i10, i10, fun y3 => gofin 1 (Or.inr rfl) (by rw [if_pos y3]), fun y3 => ⟨⟨by omega, by omega⟩, gofin 0 (Or.inl rfl) (by rw [if_neg y3])⟩⟩
  exact loop (N 0 24).toNat 0 N c4 (by omega) (by decide) t4 k4 gD rfl (by omega) gu (fun c' hq => h1 c' a b hq.lo (hM.q hP hq))
