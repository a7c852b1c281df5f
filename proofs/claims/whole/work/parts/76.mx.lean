/-! CONTRACTS: the reference's seen, where, can -/
/-- what a trial leaves about -/
def tqP (k j : Int) : Prop := (123 ≤ k ∧ k ≤ 127) ∨ (k = 108 ∧ 30 ≤ j ∧ j ≤ 38)
def eqT (c c' : ct) : Prop := ∀ k j, ¬ tqP k j → c' k j = c k j
theorem eqT.rf {c : ct} : eqT c c := fun _ _ _ => rfl
theorem eqT.trans {c c1 c2 : ct} (h1 : eqT c c1) (h2 : eqT c1 c2) : eqT c c2 := fun k j a => (h2 k j a).trans (h1 k j a)
theorem eqT.q {c c' : ct} (h : eqT c c') : eqS c c' := fun k j a => h k j (fun q => a (by unfold tqP at q; unfold sqP; omega))
theorem m_putBackT {c0 c : ct} {K : SK} {d : Nat} {Q : ct → Prop} (hT : TRL c0 c) (h29 : c0 108 29 = 9999) (h : ∀ c', eqT c0 c' → (∀ j, c' 127 j = c 127 j) → c' 108 37 = c 108 37 → c' 108 38 = c 108 38 → (∀ j, c' 124 j = c 124 j) → Q c') : CV K (d + 1) mX9_putBack [(2, 108)] c Q := by
  obtain ⟨t1, ⟨a1, a2, a3, a4, a5⟩, t3⟩ := hT
  have loop : ∀ (n : Nat) (p : Int) (c1 : ct), p = 6 - n → 0 ≤ p → (∀ k j, ¬ ((k = 111 ∨ k = 112) ∨ (k = 108 ∧ ((1 ≤ j ∧ j ≤ 4) ∨ j = 29))) → c1 k j = c k j) → (c1 108 1 = c0 108 1 ∧ c1 108 2 = c0 108 2 ∧ c1 108 3 = c0 108 3 ∧ c1 108 4 = c0 108 4 ∧ c1 108 29 = 9999) → (∀ q, (0 ≤ q → p ≤ q → 6 ≤ q) → c1 111 q = c0 111 q ∧ c1 112 q = c0 112 q) → WV K (d + 1) mX9_putBack 41 [(2, 108), (0, p)] [] c1 Q := by
    intro n
    induction n with
    | zero =>
      intro p c1 hp p0 h1 h2 h3
      refine s_X9_putBack_41 p ⟨⟨by omega, by omega⟩, fun _ => ?_, fun z => absurd (by omega) z⟩
      refine h c1 (fun k j a => ?_) (fun j => h1 127 j (by omega)) (h1 108 37 (by omega)) (h1 108 38 (by omega)) (fun j => h1 124 j (by omega))
      by_cases z1 : k = 111
      · subst z1; exact (h3 j (by omega)).1
      · by_cases z2 : k = 112
        · subst z2; exact (h3 j (by omega)).2
        · by_cases z3 : k = 108 ∧ ((1 ≤ j ∧ j ≤ 4) ∨ j = 29)
          · obtain ⟨rfl, z3⟩ := z3
            have : j = 1 ∨ j = 2 ∨ j = 3 ∨ j = 4 ∨ j = 29 := by omega
            rcases this with rfl | rfl | rfl | rfl | rfl
            · exact h2.1
            · exact h2.2.1
            · exact h2.2.2.1
            · exact h2.2.2.2.1
            · rw [h2.2.2.2.2, h29]
          · rw [h1 k j (by omega)]
            exact t1 k j (by unfold trP; unfold tqP at a; omega)
    | succ n ih =>
      intro p c1 hp p0 h1 h2 h3
      refine s_X9_putBack_41 p ⟨⟨by omega, by omega⟩, fun z => absurd z (by omega), fun _ => ⟨⟨p0, by omega⟩, ⟨p0, by omega⟩, fun c4 h4 => ⟨⟨p0, by omega⟩, ⟨p0, by omega⟩, fun c7 h7 => ?_⟩⟩⟩
      subst h4; subst h7
      have e1 : c1 125 p = c0 111 p := by rw [h1 125 p (by omega)]; exact (t3 p p0 (by omega)).1
      have e2 : c1 126 p = c0 112 p := by rw [h1 126 p (by omega)]; exact (t3 p p0 (by omega)).2
      refine ih (p + 1) _ (by omega) (by omega) (fun k j a => ?_) ?_ (fun q a => ?_)
      · rw [up2_ne1 (by omega), up2_ne1 (by omega)]; exact h1 k j a
      · rw [up2_ne1 (by decide), up2_ne1 (by decide), up2_ne1 (by decide), up2_ne1 (by decide), up2_ne1 (by decide), up2_ne1 (by decide), up2_ne1 (by decide), up2_ne1 (by decide), up2_ne1 (by decide), up2_ne1 (by decide)]; exact h2
      · by_cases z : q = p
        · subst z
          rw [up2_ne1 (by decide), up2_self, up2_self, up2_ne1 (by decide), e1, e2]; exact ⟨rfl, rfl⟩
        · rw [up2_ne1 (by decide), up2_ne2 z, up2_ne2 z, up2_ne1 (by decide)]; exact h3 q (by omega)
  refine e_X9_putBack (s_X9_putBack_0 (fun c1 h1 c2 h2 c3 h3 c4 h4 c5 h5 => ?_))
  subst h1; subst h2; subst h3; subst h4; subst h5
  refine loop 6 0 _ (by decide) (by decide) (fun k j a => ?_) ?_ (fun q a => ?_)
  · unfold up2
    rw [if_neg (by omega), if_neg (by omega), if_neg (by omega), if_neg (by omega), if_neg (by omega)]
  · simp [up2, a1, a2, a3, a4]
  · have b1 := t1 111 q (by unfold trP; omega)
    have b2 := t1 112 q (by unfold trP; omega)
    simp [up2, b1, b2]
def snR (H : hf) (N M : ct) : Nat → Int → Int
  | 0, _ => 1
  | n + 1, k => if yrG H M (N 23 k).toNat 5 (N 21 k) = N 22 k then snR H N M n (k + 1) else 0
theorem snR_01 {H : hf} {N M : ct} : ∀ (n : Nat) (k : Int), snR H N M n k = 0 ∨ snR H N M n k = 1 := by
  intro n
  induction n with
  | zero => intro k; exact Or.inr rfl
  | succ n ih =>
    intro k
    rw [snR]
    split
    · exact ih _
    · exact Or.inl rfl
theorem snR_iff {H : hf} {N M : ct} : ∀ (n : Nat) (k : Int), snR H N M n k = 1 ↔ ∀ j, k ≤ j → j < k + n → yrG H M (N 23 j).toNat 5 (N 21 j) = N 22 j := by
  intro n
  induction n with
  | zero => intro k; exact ⟨fun _ j a b => by omega, fun _ => rfl⟩
  | succ n ih =>
    intro k
    rw [snR]
    by_cases z : yrG H M (N 23 k).toNat 5 (N 21 k) = N 22 k
    · rw [if_pos z, ih (k + 1)]
      refine ⟨fun h j a b => ?_, fun h j a b => h j (by omega) (by omega)⟩
      by_cases w : j = k
      · rw [w]; exact z
      · exact h j (by omega) (by omega)
    · rw [if_neg z]
      exact ⟨fun h => absurd h (by decide), fun h => absurd (h k (Int.le_refl _) (by omega)) z⟩
theorem otR_iff {N M : ct} {y : Int} : ∀ (n : Nat) (i : Int), otR N M y n i = 0 ↔ ∀ j, i ≤ j → j < i + n → N 23 j = y → M 5 (N 21 j) = N 22 j := by
  intro n
  induction n with
  | zero => intro i; exact ⟨fun _ j a b => by omega, fun _ => rfl⟩
  | succ n ih =>
    intro i
    rw [otR]
    by_cases z : N 23 i = y ∧ ¬ M 5 (N 21 i) = N 22 i
    · rw [if_pos z]
      exact ⟨fun h => absurd h (by decide), fun h => absurd (h i (Int.le_refl _) (by omega) z.1) z.2⟩
    · rw [if_neg z, ih (i + 1)]
      refine ⟨fun h j a b e => ?_, fun h j a b e => h j (by omega) (by omega) e⟩
      by_cases w : j = i
      · rw [w] at e ⊢
        by_cases w2 : M 5 (N 21 i) = N 22 i
        · exact w2
        · exact absurd ⟨e, w2⟩ z
      · exact h j (by omega) (by omega) e
theorem alR_01 {H : hf} {N : ct} : ∀ (n : Nat) (M : ct) (y : Int), alR H N n M y = 0 ∨ alR H N n M y = 1 := by
  intro n
  induction n with
  | zero => intro M y; exact Or.inr rfl
  | succ n ih =>
    intro M y
    rw [alR]
    split
    · exact ih _ _
    · exact Or.inl rfl
theorem alR_iff {H : hf} {N M : ct} : ∀ (n y : Nat), alR H N n (yrG H M y) (y : Int) = 1 ↔ ∀ t : Nat, y ≤ t → t < y + n → ∀ j, 0 ≤ j → j < 0 + ((N 0 20).toNat : Int) → N 23 j = t → yrG H M t 5 (N 21 j) = N 22 j := by
  intro n
  induction n with
  | zero => intro y; exact ⟨fun _ t a b => by omega, fun _ => rfl⟩
  | succ n ih =>
    intro y
    rw [alR]
    by_cases z : otR N (yrG H M y) (y : Int) (N 0 20).toNat 0 = 0
    · rw [if_pos z, yr_succ, show ((y : Int) + 1) = ((y + 1 : Nat) : Int) by omega, ih (y + 1)]
      have z' := (otR_iff (N 0 20).toNat 0).mp z
      refine ⟨fun h t a b => ?_, fun h t a b => h t (by omega) (by omega)⟩
      by_cases w : t = y
      · rw [w]; exact z'
      · exact h t (by omega) (by omega)
    · rw [if_neg z]
      exact ⟨fun h => absurd h (by decide), fun h => absurd ((otR_iff (N 0 20).toNat 0).mpr (h y (Nat.le_refl _) (by omega))) z⟩
theorem gtR_ge {f : Int → Int} : ∀ (n : Nat) (i a : Int), a ≤ gtR f n i a ∧ ∀ j, i ≤ j → j < i + n → f j ≤ gtR f n i a := by
  intro n
  induction n with
  | zero => intro i a; exact ⟨Int.le_refl _, fun j g1 g2 => by omega⟩
  | succ n ih =>
    intro i a
    rw [gtR]
    obtain ⟨h1, h2⟩ := ih (i + 1) (if a < f i then f i else a)
    have b : a ≤ (if a < f i then f i else a) ∧ f i ≤ (if a < f i then f i else a) := by split <;> omega
    refine ⟨by omega, fun j g1 g2 => ?_⟩
    by_cases w : j = i
    · rw [w]; omega
    · exact h2 j (by omega) (by omega)
theorem as_sn {H : hf} {N M : ct} (h0 : ∀ i, 0 ≤ i → i < N 0 20 → 0 ≤ N 23 i) : asR H N M = snR H N M (N 0 20).toNat 0 := by
  have al := alR_iff (H := H) (N := N) (M := M) (gtR (N 23) (N 0 20).toNat 0 (-1) + 1).toNat 0
  rw [yr_zero] at al
  have key : asR H N M = 1 ↔ snR H N M (N 0 20).toNat 0 = 1 := by
    rw [snR_iff]
    refine Iff.trans al ?_
    have hg := gtR_ge (f := N 23) (N 0 20).toNat 0 (-1)
    refine ⟨fun h j a b => ?_, fun h t _ b j j0 j1 e => ?_⟩
    · have n0 := h0 j a (by omega)
      have := hg.2 j a b
      exact h (N 23 j).toNat (Nat.zero_le _) (by omega) j a (by omega) (by omega)
    · have := h j j0 j1
      rw [show (N 23 j).toNat = t by omega] at this
      exact this
  have a1 := alR_01 (H := H) (N := N) (gtR (N 23) (N 0 20).toNat 0 (-1) + 1).toNat M 0
  have a1 : asR H N M = 0 ∨ asR H N M = 1 := a1
  have a2 := snR_01 (H := H) (N := N) (M := M) (N 0 20).toNat 0
  omega
theorem m_isSeen {H : hf} {c N M : ct} {K : SK} {d : Nat} {Q : ct → Int → Prop} (hK : MK H c M) (h29 : c 108 29 = 9999) (hn : M 0 10 = N 0 10) (hy : 0 ≤ M 0 12 ∧ M 0 12 ≤ 9999) (hu : ∀ p, 0 ≤ p → p < M 0 10 → M 4 p ≤ M 0 12) (hs : c 108 39 = N 0 20 ∧ 0 ≤ N 0 20 ∧ N 0 20 ≤ 5) (hr : ∀ i, 0 ≤ i → i < N 0 20 → c 128 i = N 21 i ∧ c 130 i = N 22 i ∧ c 129 i = N 23 i) (hI : ∀ i, 0 ≤ i → i < N 0 20 → (0 ≤ N 21 i ∧ N 21 i < N 0 10) ∧ (N 22 i = 0 ∨ N 22 i = 1) ∧ 0 ≤ N 23 i ∧ N 23 i ≤ 20) (h : ∀ c', eqT c c' → Q c' (asR H N M)) : CI K (d + 8) mX9_isSeen [(2, 108)] c Q := by
  rw [as_sn (fun i a b => (hI i a b).2.2.1)] at h
  have loop : ∀ (n : Nat) (k a : Int) (c1 : ct), k = N 0 20 - n → 0 ≤ k → (a = 0 ∨ a = 1) → eqT c c1 → (a = 0 → ∀ c', eqT c c' → Q c' 0) → (a = 1 → ∀ c', eqT c c' → Q c' (snR H N M n k)) → WI K (d + 8) mX9_isSeen 4 [(2, 108), (0, a), (0, k)] [] c1 Q := by
    intro n
    induction n with
    | zero =>
      intro k a c1 hk k0 ha he q0 q1
      refine s_X9_isSeen_4 a k ?_
      rw [he 108 39 (by unfold tqP; omega), hs.1]
      refine ⟨⟨⟨by omega, by omega⟩, ⟨by omega, by omega⟩⟩, fun _ => ⟨ha, ?_⟩, fun z => absurd (by omega) z⟩
      rcases ha with e | e
      · rw [e]; exact q0 e c1 he
      · rw [e]; exact q1 e c1 he
    | succ n ih =>
      intro k a c1 hk k0 ha he q0 q1
      have kn : k < N 0 20 := by omega
      obtain ⟨i1, i2, i3⟩ := hI k k0 kn
      obtain ⟨g1, g2, g3⟩ := hr k k0 kn
      have k1 : MK H c1 M := MK_congr hK (fun j a => he 108 j (by unfold tqP; omega)) (fun k a b j => he k j (by unfold tqP; omega))
      refine s_X9_isSeen_4 a k ?_
      rw [he 108 39 (by unfold tqP; omega), hs.1]
      refine ⟨⟨⟨by omega, by omega⟩, ⟨by omega, by omega⟩⟩, fun z => absurd z (by omega), fun _ => ⟨fun z => ⟨ha, by rw [z]; exact q0 z c1 he⟩, fun z => ⟨ir_01 ha, m_save (d := d + 6) k1 (fun c4 t4 k4 _ => ⟨⟨k0, by omega⟩, ?_⟩)⟩⟩⟩
      have a1 : a = 1 := by omega
      rw [t4.1 129 k (by unfold trP; omega), he 129 k (by unfold tqP; omega), g3]
      refine m_goYears (d := d + 1) (B := 2000000000) k4 ⟨i3.1, by omega⟩ ⟨t4.2.1.2.2.2.2, by decide⟩ (fun p p0 p1 => by have := hu p p0 p1; omega) (by omega) (fun c7 h7 k7 => ⟨⟨k0, by omega⟩, ?_⟩)
      have t7 := TRL_S t4 h7.S
      rw [t7.1 128 k (by unfold trP; omega), he 128 k (by unfold tqP; omega), g1]
      refine m_emp (d := d + 6) k7.1 (by rw [yr_0 (by decide), hn]; exact i1) ⟨⟨k0, by omega⟩, ?_⟩
      rw [t7.1 130 k (by unfold trP; omega), he 130 k (by unfold tqP; omega), g2]
      have r5 := (k7.1.2.2.2.2.2.2 (N 21 k) i1.1 (by rw [yr_0 (by decide), hn]; exact i1.2)).2.2.2.2.1
      refine ⟨fun y => m_putBackT (d := d + 6) t7 (by rw [he 108 29 (by unfold tqP; omega)]; exact h29) (fun c14 q14 _ _ _ _ => ih (k + 1) 1 c14 (by omega) (by omega) (Or.inr rfl) (he.trans q14) (fun w => absurd w one_ne) (fun _ c' e' => ?_)), fun y => ⟨⟨ir_01 r5, ir_01 i2⟩, m_putBackT (d := d + 6) t7 (by rw [he 108 29 (by unfold tqP; omega)]; exact h29) (fun c14 q14 _ _ _ _ => ih (k + 1) 0 c14 (by omega) (by omega) (Or.inl rfl) (he.trans q14) (fun _ c' e' => ?_) (fun w => absurd w (by decide)))⟩⟩
      · have := q1 a1 c' e'
        rw [snR, if_pos y] at this
        exact this
      · have := q1 a1 c' e'
        rw [snR, if_neg y] at this
        exact this
  exact e_X9_isSeen (s_X9_isSeen_0 (loop (N 0 20).toNat 0 1 c (by omega) (by decide) (Or.inr rfl) eqT.rf (fun w => absurd w one_ne) (fun _ => h)))
theorem n_where {H : hf} {c N I X : ct} {K : SK} {d : Nat} {Q : ct → Int → Prop} (hM : MSR H c N I X) (hP : PU N I X) {p : Int} (hp : ir p) (h0 : ¬ isG N p → Q c (-1)) (h1 : ∀ c', isG N p → loM c c' → MSR H c' N I X → Q c' (whR H N p 6 0 0)) : CI K (d + 9) mX9_where [(2, 108), (0, p)] c Q := by
  have k := hM.k hP
  obtain ⟨gD, gy, gu, gz⟩ := hP.g
  have hI := hP.1.2.1.2.1
  have hsn := hM.1.2.1
  refine e_X9_where p (s_X9_where_0 p (m_isGuest (d := d + 6) hp k.1.1 (fun z => bz (h0 z)) (fun a b => bo ?_)))
  have main : ∀ (n : Nat) (s m : Int) (c1 : ct), s = 6 - n → 0 ≤ s → (0 ≤ m ∧ (s < 6 → m < pw s) ∧ m < 64) → eqS c c1 → (∀ o, 0 ≤ o → o < 6 → c1 131 o = c 111 o) → (∀ c', eqS c c' → Q c' (whR H N p n s m)) → WI K (d + 9) mX9_where 40 [(2, 108), (0, p), (0, m), (0, s), (9, 0)] [] c1 Q := by
    intro n
    induction n with
    | zero =>
      intro s m c1 hs s0 hm he ht hQ
      exact s_X9_where_40 p m s ⟨⟨by omega, by omega⟩, fun _ => hQ c1 he, fun z => absurd (by omega) z⟩
    | succ n ih =>
      intro s m c1 hs s0 hm he ht hQ
      have ms := hm.2.1 (by omega)
      have k1 : MK H c1 N := MK_congr k (fun j a => he 108 j (by unfold sqP; omega)) (fun k a b j => he k j (by unfold sqP; omega))
      refine s_X9_where_40 p m s ⟨⟨by omega, by omega⟩, fun z => absurd z (by omega), fun _ => m_takesSeat (d := d + 6) k1.1 gD ⟨a, b⟩ ⟨s0, by omega⟩ (fun c3 h3 T3 => ?_)⟩
      have k3 : MK H c3 (mvG N p s) := ⟨T3, MHR.w k1.2 (fun k j w => h3 k j (by omega))⟩
      have back : ∀ c5, eqT c3 c5 → ∀ (mm : Int), (∀ c6, eqS c c6 → (∀ o, 0 ≤ o → o < 6 → c6 131 o = c 111 o) → WI K (d + 9) mX9_where 40 [(2, 108), (0, p), (0, mm), (0, s + 1), (9, 0)] [] c6 Q) → WI K (d + 9) mX9_where 72 [(2, 108), (0, p), (0, mm), (0, s), (0, 0)] [] c5 Q := by
        intro c5 h5 mm hw
        have loop : ∀ (q : Nat) (o : Int) (c6 : ct), o = 6 - q → 0 ≤ o → (∀ kk j, ¬ (kk = 111 ∧ 0 ≤ j ∧ j < 6) → c6 kk j = c5 kk j) → (∀ j, 0 ≤ j → j < o → c6 111 j = c 111 j) → WI K (d + 9) mX9_where 72 [(2, 108), (0, p), (0, mm), (0, s), (0, o)] [] c6 Q := by
          intro q
          induction q with
          | zero =>
            intro o c6 ho o0 f1 f2
            refine s_X9_where_72 p mm s o ⟨⟨by omega, by omega⟩, fun _ => hw c6 (fun kk j y => ?_) (fun j j0 j1 => ?_), fun z => absurd (by omega) z⟩
            · by_cases z : kk = 111 ∧ 0 ≤ j ∧ j < 6
              · obtain ⟨rfl, z0, z1⟩ := z; exact f2 j z0 (by omega)
              · rw [f1 kk j z, h5 kk j (fun w => y (by unfold tqP at w; unfold sqP; omega)), h3 kk j z]; exact he kk j y
            · rw [f1 131 j (by omega), h5 131 j (by unfold tqP; omega), h3 131 j (by omega)]; exact ht j j0 j1
          | succ q ih2 =>
            intro o c6 ho o0 f1 f2
            refine s_X9_where_72 p mm s o ⟨⟨by omega, by omega⟩, fun z => absurd z (by omega), fun _ => ⟨⟨o0, by omega⟩, ⟨o0, by omega⟩, fun c8 h8 => ih2 (o + 1) c8 (by omega) (by omega) (fun kk j z => ?_) (fun j j0 j1 => ?_)⟩⟩
            · rw [h8]; unfold up2; rw [if_neg (by omega)]; exact f1 kk j z
            · by_cases z : j = o
              · subst z
                rw [h8, up2_self, f1 131 j (by omega), h5 131 j (by unfold tqP; omega), h3 131 j (by omega)]; exact ht j j0 (by omega)
              · rw [h8, up2_ne2 z]; exact f2 j j0 (by omega)
        exact loop 6 0 c5 (by decide) (by decide) (fun _ _ _ => rfl) (fun j a b => by omega)
      refine m_isSeen (d := d) (N := N) (M := mvG N p s) k3 (by rw [h3 108 29 (by omega), he 108 29 (by unfold sqP; omega)]; exact hM.2.1) rfl gy gu ⟨by rw [h3 108 39 (by omega), he 108 39 (by unfold sqP; omega)]; exact hsn.1, gz.1⟩ (fun i i0 i1 => by
        rw [h3 128 i (by omega), h3 130 i (by omega), h3 129 i (by omega), he 128 i (by unfold sqP; omega), he 130 i (by unfold sqP; omega), he 129 i (by unfold sqP; omega)]
        exact (hsn.2 i i0 (by have := gz.1; omega)).2 i1) hI (fun c5 h5 => ?_)
      have pwb := pw_p s
      have n0 : 0 ≤ m ∧ (s + 1 < 6 → m < pw (s + 1)) ∧ m < 64 := ⟨hm.1, fun q => by rw [pw_s ⟨s0, by omega⟩]; omega, hm.2.2⟩
      have n1 : 0 ≤ m + 1 * pw s ∧ (s + 1 < 6 → m + 1 * pw s < pw (s + 1)) ∧ m + 1 * pw s < 64 := ⟨by omega, fun q => by rw [pw_s ⟨s0, by omega⟩]; omega, by omega⟩
      rw [whR] at hQ
      refine ⟨fun z => back c5 h5 (bOr m 0) (fun c6 e6 f6 => ?_), fun z => ⟨ir_01 asR_01, back c5 h5 _ (fun c6 e6 f6 => ?_)⟩⟩
      · rw [or_0 ⟨by omega, by omega⟩]
        rw [if_pos z] at hQ
        exact ih (s + 1) m c6 (by omega) (by omega) n0 e6 f6 hQ
      · rw [if_neg z] at hQ
        refine ih (s + 1) _ c6 (by omega) (by omega) ?_ e6 f6 hQ
        rw [or_shl ⟨s0, by omega⟩ ⟨hm.1, ms⟩ (Or.inr rfl)]
        exact n1
  have first : ∀ (n : Nat) (o : Int) (c1 : ct), o = 6 - n → 0 ≤ o → (∀ kk, kk ≠ 131 → ∀ j, c1 kk j = c kk j) → (∀ j, 0 ≤ j → j < o → c1 131 j = c 111 j) → WI K (d + 9) mX9_where 14 [(2, 108), (0, p), (0, 0), (0, o), (9, 0)] [] c1 Q := by
    intro n
    induction n with
    | zero =>
      intro o c1 ho o0 f1 f2
      exact s_X9_where_14 p 0 o ⟨⟨by omega, by omega⟩, fun _ => main 6 0 0 c1 (by decide) (by decide) ⟨by decide, fun _ => by decide, by decide⟩ (fun kk j y => f1 kk (fun q => y (by unfold sqP; omega)) j) (fun j j0 j1 => f2 j j0 (by omega)) (fun c' e' => h1 c' ⟨a, b⟩ e'.lo (hM.q hP e')), fun z => absurd (by omega) z⟩
    | succ n ih =>
      intro o c1 ho o0 f1 f2
      refine s_X9_where_14 p 0 o ⟨⟨by omega, by omega⟩, fun z => absurd z (by omega), fun _ => ⟨⟨o0, by omega⟩, ⟨o0, by omega⟩, fun c4 h4 => ih (o + 1) c4 (by omega) (by omega) (fun kk z j => ?_) (fun j j0 j1 => ?_)⟩⟩
      · rw [h4, up2_ne1 z]; exact f1 kk z j
      · by_cases z : j = o
        · subst z
          rw [h4, up2_self]; exact f1 111 (by decide) j
        · rw [h4, up2_ne2 z]; exact f2 j j0 (by omega)
  exact first 6 0 c (by decide) (by decide) (fun _ _ _ => rfl) (fun j a b => by omega)
def cuC (H : hf) (N : ct) (p v : Int) : Int := if asR H N (vG N p v) = 0 then 0 else 1
def lsC (H : hf) (N : ct) (p : Int) : Nat → Int → Int
  | 0, _ => -5
  | n + 1, v => if asR H N (vG N p v) = 0 then lsC H N p n (v + 1) else v
theorem cn_pos {H : hf} {N : ct} {p : Int} : ∀ (n : Nat) (v m l : Int), 0 < m → cnR H N p n v m l = (m + smR (cuC H N p) n v, l) := by
  intro n
  induction n with
  | zero => intro v m l _; simp [cnR, smR]
  | succ n ih =>
    intro v m l hm
    rw [cnR, smR]
    by_cases z : asR H N (vG N p v) = 0
    · rw [if_pos z, ih _ _ _ hm, show cuC H N p v = 0 from if_pos z, Int.zero_add]
    · rw [if_neg z, if_neg (by omega), ih _ _ _ (by omega), show cuC H N p v = 1 from if_neg z, Int.add_assoc]
theorem cn_zero {H : hf} {N : ct} {p : Int} : ∀ (n : Nat) (v : Int), cnR H N p n v 0 (-5) = (smR (cuC H N p) n v, lsC H N p n v) := by
  intro n
  induction n with
  | zero => intro v; rfl
  | succ n ih =>
    intro v
    rw [cnR, smR, lsC]
    by_cases z : asR H N (vG N p v) = 0
    · rw [if_pos z, if_pos z, ih, show cuC H N p v = 0 from if_pos z, Int.zero_add]
    · rw [if_neg z, if_neg z, if_pos rfl, cn_pos _ _ _ _ (by decide), show cuC H N p v = 1 from if_neg z, Int.zero_add]
theorem MT_v {c G : ct} {p v : Int} (hM : MT c G) (hv : 0 ≤ v ∧ v ≤ 9) : MT (up2 c 110 p v) (vG G p v) := by
  obtain ⟨b0, b3, b4, b5, b1, b2, hr⟩ := hM
  have g : ∀ k j, k ≠ 2 → vG G p v k j = G k j := fun k j a => by unfold vG; rw [if_neg (fun q => a q.1)]
  unfold MT
  rw [g 0 10 (by decide), g 0 11 (by decide), g 0 12 (by decide), g 0 13 (by decide)]
  rw [show vG G p v 6 = G 6 from funext (fun j => g 6 j (by decide)), show vG G p v 5 = G 5 from funext (fun j => g 5 j (by decide))]
  refine ⟨by rw [up2_ne1 (by decide)]; exact b0, by rw [up2_ne1 (by decide)]; exact b3, by rw [up2_ne1 (by decide)]; exact b4, by rw [up2_ne1 (by decide)]; exact b5, by rw [up2_ne1 (by decide)]; exact b1, by rw [up2_ne1 (by decide)]; exact b2, fun q a b => ?_⟩
  obtain ⟨r1, r2, r3, r4, r5, r6, r7⟩ := hr q a b
  rw [up2_ne1 (a := 109) (by decide), up2_ne1 (a := 111) (by decide), up2_ne1 (a := 112) (by decide), g 1 q (by decide), g 3 q (by decide), g 4 q (by decide)]
  refine ⟨r1, ?_, r3, r4, r5, r6, fun i i0 i1 => by rw [up2_ne1 (by decide), g 7 _ (by decide)]; exact r7 i i0 i1⟩
  have e1 : up2 c 110 p v 110 q = if q = p then v else c 110 q := by simp [up2]
  have e2 : vG G p v 2 q = if q = p then v else G 2 q := by simp [vG]
  rw [e1, e2]
  split
  · exact ⟨rfl, hv⟩
  · exact r2
theorem n_can {H : hf} {c N I X : ct} {K : SK} {d : Nat} {Q : ct → Int → Prop} (hM : MSR H c N I X) (hP : PU N I X) {p w : Int} (hp : ir p) (hw : ir w) (h0 : ¬ (isG N p ∧ 0 ≤ w ∧ w ≤ 1) → Q c (-1)) (h1 : ∀ c', isG N p → 0 ≤ w → w ≤ 1 → loM c c' → MSR H c' N I X → Q c' (if w = 0 then (cnR H N p 10 0 0 (-5)).1 else (cnR H N p 10 0 0 (-5)).2)) : CI K (d + 9) mX9_can [(2, 108), (0, p), (0, w)] c Q := by
  have k := hM.k hP
  have n6 := k.1.1
  obtain ⟨gD, gy, gu, gz⟩ := hP.g
  have hI := hP.1.2.1.2.1
  have hsn := hM.1.2.1
  rw [cn_zero] at h1
  refine e_X9_can p w (s_X9_can_0 p w (m_isGuest (d := d + 6) hp k.1.1 (fun z => bz (h0 (fun q => z q.1))) (fun a b => bo (m_in (d := d + 7) hw ir01.1 ⟨by decide, by decide⟩ (fun z => bz (h0 (fun q => z q.2))) (fun w0 w1 => bo ⟨⟨a, by omega⟩, ?_⟩)))))
  have p6 : 0 ≤ p ∧ p < 6 := ⟨a, by omega⟩
  have loop : ∀ (n : Nat) (v : Int) (j : Nat) (c1 : ct), v = (n : Int) - 1 → (j : Int) = 9 - v → n ≤ 10 → (∀ kk i, ¬ sqP kk i → ¬ (kk = 110 ∧ i = p) → c1 kk i = c kk i) → WI K (d + 9) mX9_can 38 [(2, 108), (0, p), (0, w), (0, c 110 p), (0, smR (cuC H N p) j (v + 1)), (0, lsC H N p j (v + 1)), (0, v)] [] c1 Q := by
    intro n
    induction n with
    | zero =>
      intro v j c1 hv hj hn he
      have hj10 : j = 10 := by omega
      have v1 : v + 1 = 0 := by omega
      subst hj10
      rw [v1]
      refine s_X9_can_38 p w _ _ _ v ⟨⟨by omega, by omega⟩, fun _ => ⟨p6, fun c3 h3 => ?_⟩, fun z => absurd (by omega) z⟩
      have e3 : eqS c c3 := fun kk i y => by
        by_cases z : kk = 110 ∧ i = p
        · obtain ⟨rfl, rfl⟩ := z; rw [h3, up2_self]
        · rw [h3]; unfold up2; rw [if_neg z]; exact he kk i y z
      have := h1 c3 ⟨a, b⟩ w0 w1 e3.lo (hM.q hP e3)
      refine ⟨fun z => ?_, fun z => ⟨hw, ?_⟩⟩
      · rw [if_pos z] at this; exact this
      · rw [if_neg z] at this; exact this
    | succ n ih =>
      intro v j c1 hv hj hn he
      refine s_X9_can_38 p w _ _ _ v ⟨⟨by omega, by omega⟩, fun z => absurd z (by omega), fun _ => ⟨p6, fun c6 h6 => ?_⟩⟩
      have f6 : ∀ kk i, ¬ sqP kk i → ¬ (kk = 110 ∧ i = p) → c6 kk i = c kk i := fun kk i y z => by
        rw [h6]; unfold up2; rw [if_neg z]; exact he kk i y z
      have m1 : MT c6 (vG N p v) := by
        have hb : MT (up2 c 110 p v) (vG N p v) := MT_v k.1 ⟨by omega, by omega⟩
        refine MT_congr hb (fun i y => ?_) (fun kk y1 y2 i => ?_)
        · rw [f6 108 i (by unfold sqP; omega) (by omega), up2_ne1 (by decide)]
        · by_cases z : kk = 110 ∧ i = p
          · obtain ⟨rfl, rfl⟩ := z; rw [h6, up2_self, up2_self]
          · rw [f6 kk i (by unfold sqP; omega) z]; unfold up2; rw [if_neg z]
      have k6 : MK H c6 (vG N p v) := ⟨m1, MHR_congr k.2 (fun kk y1 y2 i => f6 kk i (by unfold sqP; omega) (by omega))⟩
      refine m_isSeen (d := d) (N := N) (M := vG N p v) k6 (by rw [f6 108 29 (by unfold sqP; omega) (by omega)]; exact hM.2.1) rfl gy gu ⟨by rw [f6 108 39 (by unfold sqP; omega) (by omega)]; exact hsn.1, gz.1⟩ (fun i i0 i1 => by
        rw [f6 128 i (by unfold sqP; omega) (by omega), f6 130 i (by unfold sqP; omega) (by omega), f6 129 i (by unfold sqP; omega) (by omega)]
        exact (hsn.2 i i0 (by have := gz.1; omega)).2 i1) hI (fun c8 h8 => ?_)
      have f8 : ∀ kk i, ¬ sqP kk i → ¬ (kk = 110 ∧ i = p) → c8 kk i = c kk i := fun kk i y z => by
        rw [h8 kk i (fun q => y (by unfold tqP at q; unfold sqP; omega))]; exact f6 kk i y z
      have next := ih (v + (-1)) (j + 1) c8 (by omega) (by omega) (by omega) f8
      rw [show v + (-1) + 1 = v by omega, smR, lsC] at next
      refine ⟨fun z => ?_, fun z => ⟨ir_01 asR_01, ?_⟩⟩
      · rw [show cuC H N p v = 0 from if_pos z, if_pos z, Int.zero_add] at next
        exact next
      · rw [show cuC H N p v = 1 from if_neg z, if_neg z, Int.add_comm 1] at next
        exact next
  exact loop 10 9 0 c (by decide) (by decide) (by decide) (fun _ _ _ _ => rfl)
