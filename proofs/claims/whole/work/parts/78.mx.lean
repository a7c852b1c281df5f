/-! CONTRACTS: the reference's best, peace -/
theorem six_split {pre s : Int} {m : Nat} : (pre * 6 + s + 1) * (6 : Int) ^ m = (pre * 6 + (s + 1)) * (6 : Int) ^ m := by rw [Int.add_assoc]
theorem six_up {pre : Int} {m : Nat} : (pre * 6 + 6) * (6 : Int) ^ m = (pre + 1) * (6 : Int) ^ (m + 1) := by
  rw [Int.pow_succ, show pre * 6 + 6 = (pre + 1) * 6 by omega, Int.mul_assoc, Int.mul_comm 6 ((6 : Int) ^ m)]
theorem six_dn {pre : Int} {m : Nat} : pre * (6 : Int) ^ (m + 1) = (pre * 6 + 0) * (6 : Int) ^ m := by
  rw [Int.pow_succ, Int.add_zero, Int.mul_assoc, Int.mul_comm 6 ((6 : Int) ^ m)]
/-- numbers that spell no placing are passed over -/
theorem m_skip {H : hf} {c3 N : ct} {K : SK} {d : Nat} {Q : ct → Prop} {n : Nat} {pe : Int} (hK : MK H c3 N) (hL : LKD H c3 N) (hn : N 0 10 = n) (hpe : pe = 0 ∨ pe = 1) : ∀ (m g : Nat) (A : Int → Int) (B c : ct) (a : Int), g + m = n → rg6 A g → ¬ inj6 A g → PLC c3 c → BRM c B a n → (∀ c', PLC c3 c' → BRM c' B a n → WV K (d + 6) mX9_layBest 36 [(2, 108), (0, pe), (0, (6 : Int) ^ n), (0, a), (0, (enc6 A g + 1) * (6 : Int) ^ m), (9, 0), (9, 0), (9, 0)] [] c' Q) → WV K (d + 6) mX9_layBest 36 [(2, 108), (0, pe), (0, (6 : Int) ^ n), (0, a), (0, enc6 A g * (6 : Int) ^ m), (9, 0), (9, 0), (9, 0)] [] c Q := by
  intro m
  induction m with
  | zero =>
    intro g A B c a hg hA hi hP hB hQ
    have e : g = n := by omega
    subst e
    rw [Int.pow_zero, Int.mul_one]
    simp only [Int.pow_zero, Int.mul_one] at hQ
    exact m_leaf hK hL hn hA hpe hP hB (fun _ => hQ) (fun w => absurd w hi)
  | succ m ih =>
    intro g A B c a hg hA hi hP hB hQ
    have kids : ∀ (r : Nat) (s : Int) (c1 : ct), s = 6 - r → 0 ≤ s → PLC c3 c1 → BRM c1 B a n → WV K (d + 6) mX9_layBest 36 [(2, 108), (0, pe), (0, (6 : Int) ^ n), (0, a), (0, (enc6 A g * 6 + s) * (6 : Int) ^ m), (9, 0), (9, 0), (9, 0)] [] c1 Q := by
      intro r
      induction r with
      | zero =>
        intro s c1 hs s0 P1 B1
        rw [show s = 6 by omega, six_up]
        exact hQ c1 P1 B1
      | succ r ihr =>
        intro s c1 hs s0 P1 B1
        have := ih (g + 1) (updA A g s) B c1 a (by omega) (rg6_upd hA ⟨s0, by omega⟩) (inj6_mono hi) P1 B1 (fun c' P' B' => by
          rw [enc6_upd, six_split]
          exact ihr (s + 1) c' (by omega) (by omega) P' B')
        rw [enc6_upd] at this
        exact this
    rw [six_dn]
    exact kids 6 0 c (by decide) (by decide) hP hB
theorem m_tree {H : hf} {c3 N : ct} {K : SK} {d : Nat} {Q : ct → Prop} {n : Nat} {pe : Int} (hK : MK H c3 N) (hL : LKD H c3 N) (hn : N 0 10 = n) (hpe : pe = 0 ∨ pe = 1) : ∀ (m g : Nat) (A : Int → Int) (B c : ct) (a : Int), g + m = n → rg6 A g → inj6 A g → PLC c3 c → BRM c B a n → (∀ c' a', PLC c3 c' → BRM c' (plR H N pe m g A B) a' n → WV K (d + 6) mX9_layBest 36 [(2, 108), (0, pe), (0, (6 : Int) ^ n), (0, a'), (0, (enc6 A g + 1) * (6 : Int) ^ m), (9, 0), (9, 0), (9, 0)] [] c' Q) → WV K (d + 6) mX9_layBest 36 [(2, 108), (0, pe), (0, (6 : Int) ^ n), (0, a), (0, enc6 A g * (6 : Int) ^ m), (9, 0), (9, 0), (9, 0)] [] c Q := by
  intro m
  induction m with
  | zero =>
    intro g A B c a hg hA hi hP hB hQ
    have e : g = n := by omega
    subst e
    rw [Int.pow_zero, Int.mul_one]
    simp only [Int.pow_zero, Int.mul_one] at hQ
    exact m_leaf hK hL hn hA hpe hP hB (fun w => absurd hi w) (fun _ => hQ)
  | succ m ih =>
    intro g A B c a hg hA hi hP hB hQ
    have kids : ∀ (r : Nat) (s : Int) (B1 c1 : ct) (a1 : Int), s = 6 - r → 0 ≤ s → PLC c3 c1 → BRM c1 B1 a1 n → (∀ c' a', PLC c3 c' → BRM c' (sLo (fun s B' => if stA A g s < 0 then plR H N pe m (g + 1) (updA A g s) B' else B') r s B1) a' n → WV K (d + 6) mX9_layBest 36 [(2, 108), (0, pe), (0, (6 : Int) ^ n), (0, a'), (0, (enc6 A g + 1) * (6 : Int) ^ (m + 1)), (9, 0), (9, 0), (9, 0)] [] c' Q) → WV K (d + 6) mX9_layBest 36 [(2, 108), (0, pe), (0, (6 : Int) ^ n), (0, a1), (0, (enc6 A g * 6 + s) * (6 : Int) ^ m), (9, 0), (9, 0), (9, 0)] [] c1 Q := by
      intro r
      induction r with
      | zero =>
        intro s B1 c1 a1 hs s0 P1 R1 hq
        rw [show s = 6 by omega, six_up]
        exact hq c1 a1 P1 R1
      | succ r ihr =>
        intro s B1 c1 a1 hs s0 P1 R1 hq
        simp only [sLo_s] at hq
        by_cases z : stA A g s < 0
        · simp only [if_pos z] at hq
          have := ih (g + 1) (updA A g s) B1 c1 a1 (by omega) (rg6_upd hA ⟨s0, by omega⟩) (inj6_upd hi z) P1 R1 (fun c' a' P' B' => by
            rw [enc6_upd, six_split]
            exact ihr (s + 1) _ c' a' (by omega) (by omega) P' B' hq)
          rw [enc6_upd] at this
          exact this
        · simp only [if_neg z] at hq
          have := m_skip (d := d) hK hL hn hpe m (g + 1) (updA A g s) B1 c1 a1 (by omega) (rg6_upd hA ⟨s0, by omega⟩) (inj6_not z) P1 R1 (fun c' P' B' => by
            rw [enc6_upd, six_split]
            exact ihr (s + 1) _ c' a1 (by omega) (by omega) P' B' hq)
          rw [enc6_upd] at this
          exact this
    rw [six_dn]
    exact kids 6 0 B c a (by decide) (by decide) hP hB hQ
theorem m_layBest {H : hf} {c N B0 : ct} {K : SK} {d : Nat} {Q : ct → Prop} {pe : Int} (hK : MK H c N) (h29 : c 108 29 = 9999) (hpe : pe = 0 ∨ pe = 1) (hB0 : B0 0 5 = 1) (h : ∀ c', eqS c c' → (c' 108 37 = beB H N pe B0 0 3 ∧ c' 108 38 = beB H N pe B0 0 2 ∧ ∀ p, 0 ≤ p → p < N 0 10 → c' 127 p = beB H N pe B0 1 p) → Q c') : CV K (d + 6) mX9_layBest [(2, 108), (0, pe)] c Q := by
  obtain ⟨e0, n0, n6⟩ := hK.1.1
  obtain ⟨n, hn⟩ : ∃ n : Nat, N 0 10 = n := ⟨(N 0 10).toNat, by omega⟩
  have p6 : ∀ g : Nat, g ≤ 6 → (6 : Int) ^ g ≤ 46656 := by decide
  refine e_X9_layBest pe (s_X9_layBest_0 pe (m_save (d := d + 4) hK (fun c1 t1 k1 _ => m_layLikes (d := d + 1) k1 (fun c3 o3 k3 l3 => ?_))))
  have t3 := TRL_S t1 o3.S
  have e03 := k3.1.1.1
  have nn : (N 0 10).toNat = n := by omega
  have fin : ∀ c' a', PLC c3 c' → BRM c' (plR H N pe n (0 : Nat) (fun _ => 0) B0) a' n → WV K (d + 6) mX9_layBest 36 [(2, 108), (0, pe), (0, (6 : Int) ^ n), (0, a'), (0, (enc6 (fun _ => 0) 0 + 1) * (6 : Int) ^ n), (9, 0), (9, 0), (9, 0)] [] c' Q := fun c' a' P' R' => by
    have pn := p6 n (by omega)
    have pp : 0 < (6 : Int) ^ n := by
      have : ∀ g : Nat, g ≤ 6 → 0 < (6 : Int) ^ g := by decide
      exact this n (by omega)
    have e1 : (enc6 (fun _ => 0) 0 + 1) * (6 : Int) ^ n = (6 : Int) ^ n := by rw [enc6, Int.zero_add, Int.one_mul]
    rw [e1]
    have T : TRL c c' := by
      obtain ⟨x1, ⟨y1, y2, y3, y4, y5⟩, x3⟩ := t3
      refine ⟨fun k j w => by rw [P' k j (by unfold trP at w; omega)]; exact x1 k j w, ?_, fun p a b => by rw [P' 125 p (by omega), P' 126 p (by omega)]; exact x3 p a b⟩
      rw [P' 108 30 (by omega), P' 108 31 (by omega), P' 108 32 (by omega), P' 108 33 (by omega), P' 108 29 (by omega)]
      exact ⟨y1, y2, y3, y4, y5⟩
    refine s_X9_layBest_36 pe _ a' _ ⟨⟨⟨by omega, by omega⟩, ⟨by omega, by omega⟩⟩, fun _ => m_putBack (d := d + 4) T h29 (fun c2 q2 f127 f37 f38 _ => ?_), fun z => absurd (Int.le_refl _) z⟩
    have hb : plR H N pe n (0 : Nat) (fun _ => 0) B0 = beB H N pe B0 := by unfold beB; rw [nn]; rfl
    have z0 : beB H N pe B0 0 5 = 0 := by
      unfold beB
      exact plR_0 _ 0 _ _ (by decide) (by omega) (Or.inr hB0)
    rw [hb] at R'
    rcases R' with ⟨b1, b2⟩ | ⟨b1, b2, ⟨b3, b4⟩, ⟨b5, b6⟩, b7⟩
    · omega
    · exact h c2 q2 ⟨by rw [f37]; exact b3, by rw [f38]; exact b5, fun p a b => by rw [f127]; exact b7 p a (by omega)⟩
  have start : WV K (d + 6) mX9_layBest 36 [(2, 108), (0, pe), (0, (6 : Int) ^ n), (0, 0), (0, 0), (9, 0), (9, 0), (9, 0)] [] c3 Q := by
    have := m_tree (d := d) k3 l3 hn hpe n 0 (fun _ => 0) B0 c3 0 (by omega) (fun p a b => by omega) (fun p q a b e => by omega) (fun _ _ _ => rfl) (Or.inl ⟨rfl, hB0⟩) fin
    rw [enc6, Int.zero_mul] at this
    exact this
  have loop : ∀ (m i : Nat), i + m = n → WV K (d + 6) mX9_layBest 12 [(2, 108), (0, pe), (0, (6 : Int) ^ i), (0, (i : Int)), (9, 0), (9, 0), (9, 0), (9, 0)] [] c3 Q := by
    intro m
    induction m with
    | zero =>
      intro i hi
      refine s_X9_layBest_12 pe _ i ?_
      rw [e03]
      refine ⟨⟨⟨by omega, by omega⟩, ⟨by omega, by omega⟩⟩, fun _ => ?_, fun z => absurd (by omega) z⟩
      rw [show i = n by omega]
      exact start
    | succ m ih =>
      intro i hi
      refine s_X9_layBest_12 pe _ i ?_
      rw [e03]
      refine ⟨⟨⟨by omega, by omega⟩, ⟨by omega, by omega⟩⟩, fun z => absurd z (by omega), fun _ => ?_⟩
      have := ih (i + 1) (by omega)
      rw [Int.pow_succ] at this
      exact this
  exact loop n 0 (by omega)
theorem n_best {H : hf} {c N I X B0 : ct} {K : SK} {d : Nat} {Q : ct → Int → Prop} (hM : MSR H c N I X) (hP : PU N I X) (hB0 : B0 0 5 = 1) {w : Int} (hw : ir w) (h0 : ¬ (w = 0 ∨ isG N (w - 10)) → Q c (-10001)) (h1 : ∀ c', (w = 0 ∨ isG N (w - 10)) → loM c c' → MSR H c' N I X → Q c' (if w = 0 then beB H N 0 B0 0 2 else beB H N 0 B0 1 (w - 10))) : CI K (d + 7) mX9_best [(2, 108), (0, w)] c Q := by
  have k := hM.k hP
  have n6 := k.1.1
  have go : (w = 0 ∨ isG N (w - 10)) → WI K (d + 7) mX9_best 25 [(2, 108), (0, w)] [] c Q := fun g => by
    refine s_X9_best_25 w (m_layBest (d := d) (B0 := B0) k hM.2.1 (Or.inl rfl) hB0 (fun c' q' ⟨f1, f2, f3⟩ => ?_))
    have hc := h1 c' g q'.lo (hM.q hP q')
    refine ⟨fun z => ?_, fun z => ⟨hw, ?_, ?_⟩⟩
    · rw [if_pos z] at hc; rw [f2]; exact hc
    · rcases g with g | g
      · exact absurd g z
      · exact ⟨g.1, by have := g.2; omega⟩
    · rw [if_neg z] at hc
      rcases g with g | g
      · exact absurd g z
      · rw [f3 _ g.1 g.2]; exact hc
  refine e_X9_best w (s_X9_best_0 w ⟨fun z => go (Or.inl z), fun z => ⟨hw, ?_⟩⟩)
  rw [n6.1]
  exact m_in (d := d + 5) hw ⟨by decide, by decide⟩ ⟨by omega, by omega⟩ (fun y => bz (h0 (fun q => by unfold isG at q; omega))) (fun a b => bo (go (Or.inr ⟨by omega, by omega⟩)))
theorem n_peace {H : hf} {c N I X B0 : ct} {K : SK} {d : Nat} {Q : ct → Int → Prop} (hM : MSR H c N I X) (hP : PU N I X) (hB0 : B0 0 5 = 1) {w : Int} (hw : ir w) (h0 : ¬ (w = 0 ∨ w = 1 ∨ isG N (w - 10)) → Q c (-10001)) (h1 : ∀ c', (w = 0 ∨ w = 1 ∨ isG N (w - 10)) → loM c c' → MSR H c' N I X → Q c' (if w = 0 then beB H N 1 B0 0 3 else if w = 1 then beB H N 1 B0 0 2 else beB H N 1 B0 1 (w - 10))) : CI K (d + 7) mX9_peace [(2, 108), (0, w)] c Q := by
  have k := hM.k hP
  have n6 := k.1.1
  have go : (w = 0 ∨ w = 1 ∨ isG N (w - 10)) → WI K (d + 7) mX9_peace 31 [(2, 108), (0, w)] [] c Q := fun g => by
    refine s_X9_peace_31 w (m_layBest (d := d) (B0 := B0) k hM.2.1 (Or.inr rfl) hB0 (fun c' q' ⟨f1, f2, f3⟩ => ?_))
    have hc := h1 c' g q'.lo (hM.q hP q')
    refine ⟨fun z => ?_, fun z => ⟨hw, fun z2 => ?_, fun z2 => ⟨hw, ?_, ?_⟩⟩⟩
    · rw [if_pos z] at hc; rw [f1]; exact hc
    · rw [if_neg z, if_pos z2] at hc; rw [f2]; exact hc
    · rcases g with g | g | g
      · exact absurd g z
      · exact absurd g z2
      · exact ⟨g.1, by have := g.2; omega⟩
    · rw [if_neg z, if_neg z2] at hc
      rcases g with g | g | g
      · exact absurd g z
      · exact absurd g z2
      · rw [f3 _ g.1 g.2]; exact hc
  refine e_X9_peace w (s_X9_peace_0 w (m_in (d := d + 5) hw ir01.1 ⟨by decide, by decide⟩ (fun y => bz ?_) (fun a b => bo (go (by omega)))))
  rw [n6.1]
  exact m_in (d := d + 5) hw ⟨by decide, by decide⟩ ⟨by omega, by omega⟩ (fun y2 => bz (h0 (fun q => by unfold isG at q; omega))) (fun a b => bo (go (Or.inr (Or.inr ⟨by omega, by omega⟩))))
