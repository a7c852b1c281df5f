/-! CONTRACTS: the reference's placings -/
def enc6 (A : Int → Int) : Nat → Int
  | 0 => 0
  | g + 1 => enc6 A g * 6 + A g
def rg6 (A : Int → Int) (g : Nat) : Prop := ∀ p, 0 ≤ p → p < (g : Int) → 0 ≤ A p ∧ A p < 6
def inj6 (A : Int → Int) (g : Nat) : Prop := ∀ p q, 0 ≤ p → p < q → q < (g : Int) → A p ≠ A q
theorem enc6_r {A : Int → Int} : ∀ (g : Nat), rg6 A g → 0 ≤ enc6 A g ∧ enc6 A g < (6 : Int) ^ g := by
  intro g
  induction g with
  | zero => intro _; exact ⟨Int.le_refl _, by show (0 : Int) < 6 ^ 0; decide⟩
  | succ g ih =>
    intro h
    have i := ih (fun p a b => h p a (by omega))
    have a := h g (by omega) (by omega)
    rw [enc6, Int.pow_succ]
    omega
theorem enc6_congr {A A' : Int → Int} : ∀ (g : Nat), (∀ p, 0 ≤ p → p < (g : Int) → A' p = A p) → enc6 A' g = enc6 A g := by
  intro g
  induction g with
  | zero => intro _; rfl
  | succ g ih =>
    intro h
    rw [enc6, enc6, ih (fun p a b => h p a (by omega)), h g (by omega) (by omega)]
theorem upd_lt {A : Int → Int} {g s p : Int} (h : p < g) : updA A g s p = A p := by unfold updA; rw [if_neg (by omega)]
theorem upd_at {A : Int → Int} {g s : Int} : updA A g s g = s := by unfold updA; rw [if_pos rfl]
theorem enc6_upd {A : Int → Int} {g : Nat} {s : Int} : enc6 (updA A g s) (g + 1) = enc6 A g * 6 + s := by
  rw [enc6, upd_at, enc6_congr (A := A) g (fun p a b => upd_lt b)]
theorem rg6_upd {A : Int → Int} {g : Nat} {s : Int} (h : rg6 A g) (hs : 0 ≤ s ∧ s < 6) : rg6 (updA A g s) (g + 1) := by
  intro p a b
  by_cases z : p = (g : Int)
  · rw [z, upd_at]; exact hs
  · rw [upd_lt (by omega)]; exact h p a (by omega)
theorem inj6_upd {A : Int → Int} {g : Nat} {s : Int} (h : inj6 A g) (hs : stA A g s < 0) : inj6 (updA A g s) (g + 1) := by
  intro p q a b e
  by_cases z : q = (g : Int)
  · rw [z, upd_at, upd_lt (by omega)]; exact stA_no hs p a (by omega)
  · rw [upd_lt (by omega), upd_lt (by omega)]; exact h p q a b (by omega)
theorem inj6_not {A : Int → Int} {g : Nat} {s : Int} (hs : ¬ stA A g s < 0) : ¬ inj6 (updA A g s) (g + 1) := by
  intro h
  have w := stA_sit (A := A) (g := g) (s := s) (by omega) (by omega)
  refine h (stA A g s) g (by omega) w.1 (by omega) ?_
  rw [upd_at, upd_lt w.1, w.2]
theorem inj6_mono {A : Int → Int} {g : Nat} {s : Int} (h : ¬ inj6 A g) : ¬ inj6 (updA A g s) (g + 1) := fun w => h (fun p q a b e => by
  have := w p q a b (by omega)
  rw [upd_lt (by omega), upd_lt (by omega)] at this
  exact this)
theorem bit_add : ∀ m : Nat, m < 64 → ∀ s : Nat, s < 6 → (m : Int) / pw s % 2 = 0 → (m : Int) + pw s < 64 ∧ ∀ k : Nat, k < 6 → ((m : Int) + pw s) / pw k % 2 = if k = s then 1 else (m : Int) / pw k % 2 := by decide +kernel
theorem m_layPlacing {c3 c : ct} {K : SK} {d : Nat} {Q : ct → Int → Prop} {A : Int → Int} {n : Nat} (hn : (c 108 0 = n) ∧ n ≤ 6) (hA : rg6 A n) (ho : ∀ k j, ¬ (k = 111 ∧ 0 ≤ j ∧ j < 6) → c k j = c3 k j) (h0 : ∀ c', ¬ inj6 A n → (∀ k j, ¬ (k = 111 ∧ 0 ≤ j ∧ j < 6) → c' k j = c3 k j) → Q c' 0) (h1 : ∀ c', inj6 A n → (∀ k j, ¬ (k = 111 ∧ 0 ≤ j ∧ j < 6) → c' k j = c3 k j) → (∀ p, 0 ≤ p → p < (n : Int) → c' 111 p = A p) → Q c' 1) : CI K (d + 2) mX9_layPlacing [(2, 108), (0, enc6 A n)] c Q := by
  have p6 : ∀ g : Nat, g ≤ 6 → (6 : Int) ^ g ≤ 46656 := by decide
  have loop : ∀ (q : Nat) (u : Int) (c1 : ct), q ≤ n → (0 ≤ u ∧ u < 64) → (∀ s, 0 ≤ s → s < 6 → (u / pw s % 2 = 0 ∨ u / pw s % 2 = 1) ∧ (u / pw s % 2 = 1 ↔ ∃ p, (q : Int) ≤ p ∧ p < (n : Int) ∧ A p = s)) → (∀ p p', (q : Int) ≤ p → p < p' → p' < (n : Int) → A p ≠ A p') → (∀ k j, ¬ (k = 111 ∧ 0 ≤ j ∧ j < 6) → c1 k j = c3 k j) → (∀ p, (q : Int) ≤ p → p < (n : Int) → c1 111 p = A p) → WI K (d + 2) mX9_layPlacing 12 [(2, 108), (9, 0), (0, enc6 A q), (0, u), (0, (q : Int) - 1)] [] c1 Q := by
    intro q
    induction q with
    | zero =>
      intro u c1 hq hu hb hd ho1 hs
      refine s_X9_layPlacing_12 _ u _ ⟨⟨by omega, by omega⟩, fun _ => h1 c1 (fun p q a b e => hd p q (by omega) b e) ho1 (fun p a b => hs p (by omega) b), fun z => absurd (by omega) z⟩
    | succ q ih =>
      intro u c1 hq hu hb hd ho1 hs
      have a := hA q (by omega) (by omega)
      have er := enc6_r q (fun p a b => hA p a (by omega))
      have := p6 q (by omega)
      have ie : ir (enc6 A (q + 1)) := by rw [enc6]; exact ⟨by omega, by omega⟩
      have e1 : Int.tmod (enc6 A (q + 1)) 6 = A q := by rw [enc6, Int.tmod_eq_emod_of_nonneg (by omega)]; omega
      have e2 : Int.tdiv (enc6 A (q + 1)) 6 = enc6 A q := by rw [enc6, Int.tdiv_eq_ediv_of_nonneg (by omega)]; omega
      have eq : ((q + 1 : Nat) : Int) - 1 = (q : Int) := by omega
      rw [eq]
      refine s_X9_layPlacing_12 _ u _ ?_
      rw [e1, e2]
      refine ⟨⟨by omega, by omega⟩, fun z => absurd z (by omega), fun _ => ⟨ie, ⟨by omega, by omega⟩, fun c4 h4 => ⟨ie, ⟨by omega, by omega⟩, ?_⟩⟩⟩
      have e4 : c4 111 q = A q := by rw [h4, up2_self]
      have o4 : ∀ k j, ¬ (k = 111 ∧ 0 ≤ j ∧ j < 6) → c4 k j = c3 k j := fun k j w => by
        rw [h4]; unfold up2; rw [if_neg (by omega)]; exact ho1 k j w
      rw [e4]
      have hba := hb (A q) a.1 a.2
      refine m_has hu a ⟨fun z => ⟨⟨by omega, by omega⟩, ?_⟩, fun z => ⟨ir_01 hba.1, ?_⟩⟩
      · rw [e4]
        have ba := bit_add u.toNat (by omega) (A q).toNat (by omega) (by rw [show ((u.toNat : Nat) : Int) = u by omega, show (((A q).toNat : Nat) : Int) = A q by omega]; exact z)
        have ob := or_bit u.toNat (by omega) (A q).toNat (by omega)
        rw [show ((u.toNat : Nat) : Int) = u by omega, show (((A q).toNat : Nat) : Int) = A q by omega] at ba ob
        rw [z] at ob
        have ob' : bOr u (bShl 1 (A q)) = u + pw (A q) := by rw [ob]; omega
        rw [ob']
        have pp := pw_p (A q)
        refine ih (u + pw (A q)) c4 (by omega) ⟨by omega, ba.1⟩ (fun s s0 s6 => ?_) (fun p p' a1 a2 a3 => ?_) o4 (fun p a1 a2 => ?_)
        · have bk := ba.2 s.toNat (by omega)
          rw [show ((s.toNat : Nat) : Int) = s by omega] at bk
          have hs' := hb s s0 s6
          by_cases w : s.toNat = (A q).toNat
          · rw [if_pos w] at bk
            have w' : s = A q := by omega
            rw [bk]
            exact ⟨Or.inr rfl, fun _ => ⟨q, by omega, by omega, w'.symm⟩, fun _ => rfl⟩
          · rw [if_neg w] at bk
            rw [bk]
            refine ⟨hs'.1, fun y => ?_, fun ⟨p, p1, p2, p3⟩ => hs'.2.mpr ⟨p, ?_, p2, p3⟩⟩
            · obtain ⟨p, p1, p2, p3⟩ := hs'.2.mp y
              exact ⟨p, by omega, p2, p3⟩
            · have : p ≠ (q : Int) := fun e => by rw [e] at p3; omega
              omega
        · by_cases w : p = (q : Int)
          · intro e
            have : u / pw (A q) % 2 = 1 := hba.2.mpr ⟨p', by omega, a3, by rw [← e, w]⟩
            omega
          · exact hd p p' (by omega) a2 a3
        · by_cases w : p = (q : Int)
          · rw [w]; exact e4
          · rw [h4, up2_ne2 w]; exact hs p (by omega) a2
      · have : u / pw (A q) % 2 = 1 := by omega
        obtain ⟨p, p1, p2, p3⟩ := hba.2.mp this
        exact h0 c4 (fun w => w q p (by omega) (by omega) p2 p3.symm) o4
  refine e_X9_layPlacing _ (s_X9_layPlacing_0 _ ?_)
  rw [hn.1]
  refine loop n 0 c (Nat.le_refl _) ⟨by decide, by decide⟩ (fun s s0 s6 => ?_) (fun p p' a b e => by omega) ho (fun p a b => by omega)
  have e : (0 : Int) / pw s % 2 = 0 := by rw [Int.zero_ediv]; rfl
  rw [e]
  exact ⟨Or.inl rfl, fun y => absurd y (by decide), fun ⟨p, p1, p2, _⟩ => by omega⟩
/-- while placings are laid: nothing changed but seats and the best so far -/
def PLC (c3 c : ct) : Prop := ∀ k j, ¬ ((k = 111 ∧ 0 ≤ j ∧ j < 6) ∨ k = 127 ∨ (k = 108 ∧ (j = 37 ∨ j = 38))) → c k j = c3 k j
/-- the best so far, at the reference -/
def BRM (c B : ct) (a n : Int) : Prop := (a = 0 ∧ B 0 5 = 1) ∨ (a = 1 ∧ B 0 5 = 0 ∧ (c 108 37 = B 0 3 ∧ ir (B 0 3)) ∧ (c 108 38 = B 0 2 ∧ ir (B 0 2)) ∧ ∀ p, 0 ≤ p → p < n → c 127 p = B 1 p)
theorem MT_pl {c3 c N : ct} {A : Int → Int} {n : Nat} (hM : MT c3 N) (hn : N 0 10 = n) (hA : rg6 A n) (ho : ∀ k j, ¬ (k = 111 ∧ 0 ≤ j ∧ j < 6) → (k = 108 → j ≤ 4 ∨ j = 11) → (108 ≤ k ∧ k ≤ 113) → c k j = c3 k j) (hs : ∀ p, 0 ≤ p → p < (n : Int) → c 111 p = A p) : MT c (plG N A) := by
  obtain ⟨b0, b3, b4, b5, b1, b2, hr⟩ := hM
  refine ⟨by rw [ho 108 0 (by omega) (by omega) (by omega)]; exact b0, by rw [ho 108 3 (by omega) (by omega) (by omega)]; exact b3, by rw [ho 108 4 (by omega) (by omega) (by omega)]; exact b4, by rw [ho 108 11 (by omega) (by omega) (by omega)]; exact b5, by rw [ho 108 1 (by omega) (by omega) (by omega)]; exact b1, by rw [ho 108 2 (by omega) (by omega) (by omega)]; exact b2, fun q a b => ?_⟩
  have b' : q < N 0 10 := b
  obtain ⟨r1, r2, r3, r4, r5, r6, r7⟩ := hr q a b'
  rw [ho 109 q (by omega) (by omega) (by omega), ho 110 q (by omega) (by omega) (by omega), ho 112 q (by omega) (by omega) (by omega)]
  refine ⟨r1, r2, ⟨?_, ?_⟩, r4, r5, r6, fun i a b => by rw [ho 113 _ (by omega) (by omega) (by omega)]; exact r7 i a b⟩
  · show c 111 q = A q
    exact hs q a (by omega)
  · show 0 ≤ A q ∧ A q < 6
    exact hA q a (by omega)
theorem DS_pl {N : ct} {A : Int → Int} {n : Nat} (hn : N 0 10 = n) (hi : inj6 A n) : DS (plG N A) := by
  intro p q a b a2 b2 e
  have e : A p = A q := e
  have b : p < N 0 10 := b
  have b2 : q < N 0 10 := b2
  by_cases z : p < q
  · exact absurd e (hi p q a z (by omega))
  · by_cases z2 : q < p
    · exact absurd e.symm (hi q p a2 z2 (by omega))
    · omega
theorem m_leaf {H : hf} {c3 N c B : ct} {K : SK} {d : Nat} {Q : ct → Prop} {A : Int → Int} {n : Nat} {pe a : Int} (hK : MK H c3 N) (hL : LKD H c3 N) (hn : N 0 10 = n) (hA : rg6 A n) (hpe : pe = 0 ∨ pe = 1) (hP : PLC c3 c) (hB : BRM c B a n)
    (h0 : ¬ inj6 A n → ∀ c', PLC c3 c' → BRM c' B a n → WV K (d + 6) mX9_layBest 36 [(2, 108), (0, pe), (0, (6 : Int) ^ n), (0, a), (0, enc6 A n + 1), (9, 0), (9, 0), (9, 0)] [] c' Q)
    (h1 : inj6 A n → ∀ c' a', PLC c3 c' → BRM c' (wgB B A (allG H (plG N A) (N 0 12)) (if pe = 0 then 0 else clG H (plG N A))) a' n → WV K (d + 6) mX9_layBest 36 [(2, 108), (0, pe), (0, (6 : Int) ^ n), (0, a'), (0, enc6 A n + 1), (9, 0), (9, 0), (9, 0)] [] c' Q) :
    WV K (d + 6) mX9_layBest 36 [(2, 108), (0, pe), (0, (6 : Int) ^ n), (0, a), (0, enc6 A n), (9, 0), (9, 0), (9, 0)] [] c Q := by
  obtain ⟨e0, n0, n6⟩ := hK.1.1
  have er := enc6_r n hA
  have p6 : ∀ g : Nat, g ≤ 6 → (6 : Int) ^ g ≤ 46656 := by decide
  have pn := p6 n (by omega)
  have ha01 : a = 0 ∨ a = 1 := by unfold BRM at hB; rcases hB with h | h; exact Or.inl h.1; exact Or.inr h.1
  refine s_X9_layBest_36 pe _ a _ ⟨⟨⟨by omega, by omega⟩, ⟨by omega, by omega⟩⟩, fun z => absurd z (by omega), fun _ => m_layPlacing (c3 := c) (d := d + 3) ⟨by rw [hP 108 0 (by omega), e0]; exact hn, by omega⟩ hA (fun _ _ _ => rfl) (fun c5 hi h5 => bz (h0 hi c5 (fun k j w => by rw [h5 k j (by omega)]; exact hP k j w) ?_)) (fun c5 hi h5 hs => bo ?_)⟩
  · rcases hB with h | ⟨b1, b2, ⟨b3, b4⟩, ⟨b5, b6⟩, b7⟩
    · exact Or.inl h
    · exact Or.inr ⟨b1, b2, ⟨by rw [h5 108 37 (by omega)]; exact b3, b4⟩, ⟨by rw [h5 108 38 (by omega)]; exact b5, b6⟩, fun p a b => by rw [h5 127 p (by omega)]; exact b7 p a b⟩
  · have P5 : PLC c3 c5 := fun k j w => by rw [h5 k j (by omega)]; exact hP k j w
    have M5 : MT c5 (plG N A) := MT_pl hK.1 hn hA (fun k j w1 w2 w3 => P5 k j (by omega)) hs
    have k5 : MK H c5 (plG N A) := ⟨M5, MHR_congr hK.2 (fun k a b j => P5 k j (by omega))⟩
    have D5 : DS (plG N A) := DS_pl hn hi
    have L5 : LKD H c5 (plG N A) := fun p o a1 a2 a3 a4 a5 => by rw [P5 124 _ (by omega)]; exact hL p o a1 a2 a3 a4 a5
    have rf : ir (allG H (plG N A) (N 0 12)) := all_rng k5
    have b5' : BRM c5 B a n := by
      rcases hB with h | ⟨b1, b2, ⟨b3, b4⟩, ⟨b5, b6⟩, b7⟩
      · exact Or.inl h
      · exact Or.inr ⟨b1, b2, ⟨by rw [h5 108 37 (by omega)]; exact b3, b4⟩, ⟨by rw [h5 108 38 (by omega)]; exact b5, b6⟩, fun p a b => by rw [h5 127 p (by omega)]; exact b7 p a b⟩
    have K1 := h1 hi
    -- a better one is kept
    have take : ∀ l, l = (if pe = 0 then 0 else clG H (plG N A)) → (B 0 5 = 1 ∨ l < B 0 3 ∨ (l = B 0 3 ∧ ¬ allG H (plG N A) (N 0 12) ≤ B 0 2)) → ∀ cA cB, cA = up2 c5 108 37 l → cB = up2 cA 108 38 (allG H (plG N A) (N 0 12)) → WV K (d + 6) mX9_layBest 125 [(2, 108), (0, pe), (0, (6 : Int) ^ n), (0, 1), (0, enc6 A n), (9, 0), (9, 0), (0, 0)] [] cB Q := fun l el hb cA cB eA eB => by
      have il : ir l := by
        rw [el]; split
        · exact ir01.1
        · exact cl_r
      have loop : ∀ (m : Nat) (q : Int) (c7 : ct), q = 6 - m → 0 ≤ q → (∀ k j, k ≠ 127 → c7 k j = cB k j) → (∀ p, 0 ≤ p → p < q → c7 127 p = cB 111 p) → WV K (d + 6) mX9_layBest 125 [(2, 108), (0, pe), (0, (6 : Int) ^ n), (0, 1), (0, enc6 A n), (9, 0), (9, 0), (0, q)] [] c7 Q := by
        intro m
        induction m with
        | zero =>
          intro q c7 hq q0 f1 f2
          have fB : ∀ k j, ¬ (k = 108 ∧ (j = 37 ∨ j = 38)) → cB k j = c5 k j := fun k j w => by
            rw [eB, eA]; unfold up2; rw [if_neg (by omega), if_neg (by omega)]
          refine s_X9_layBest_125 pe _ 1 _ q ⟨⟨by omega, by omega⟩, fun _ => K1 c7 1 (fun k j w => by rw [f1 k j (by omega), fB k j (by omega)]; exact P5 k j w) (Or.inr ?_), fun z => absurd (by omega) z⟩
          unfold wgB
          rw [← el, if_pos hb]
          refine ⟨rfl, rfl, ⟨?_, il⟩, ⟨?_, rf⟩, fun p a b => ?_⟩
          · rw [f1 108 37 (by decide), eB, up2_ne2 (by decide), eA, up2_self]; rfl
          · rw [f1 108 38 (by decide), eB, up2_self]; rfl
          · rw [f2 p a (by omega), fB 111 p (by omega)]; exact hs p a b
        | succ m ih =>
          intro q c7 hq q0 f1 f2
          refine s_X9_layBest_125 pe _ 1 _ q ⟨⟨by omega, by omega⟩, fun z => absurd z (by omega), fun _ => ⟨⟨q0, by omega⟩, ⟨q0, by omega⟩, fun c4 e4 => ih (q + 1) c4 (by omega) (by omega) (fun k j w => by rw [e4, up2_ne1 w]; exact f1 k j w) (fun p a b => ?_)⟩⟩
          by_cases z : p = q
          · subst z; rw [e4, up2_self]; exact f1 111 p (by decide)
          · rw [e4, up2_ne2 z]; exact f2 p a (by omega)
      exact loop 6 0 cB (by decide) (by decide) (fun _ _ _ => rfl) (fun p a b => by omega)
    have keep : ∀ l, l = (if pe = 0 then 0 else clG H (plG N A)) → ¬ (B 0 5 = 1 ∨ l < B 0 3 ∨ (l = B 0 3 ∧ ¬ allG H (plG N A) (N 0 12) ≤ B 0 2)) → WV K (d + 6) mX9_layBest 36 [(2, 108), (0, pe), (0, (6 : Int) ^ n), (0, a), (0, enc6 A n + 1), (9, 0), (9, 0), (9, 0)] [] c5 Q := fun l el hb => by
      refine K1 c5 a P5 ?_
      unfold wgB
      rw [← el, if_neg hb]
      exact b5'
    refine ⟨fun z => ?_, fun z => ⟨ir_01 hpe, ?_⟩⟩
    · refine m_allFondBy (d := d) k5.1 k5.cl k5.win L5 ?_
      have el : (0 : Int) = (if pe = 0 then 0 else clG H (plG N A)) := (if_pos z).symm
      rcases b5' with ⟨b1, b2⟩ | ⟨b1, b2, ⟨b3, b4⟩, ⟨b5, b6⟩, b7⟩
      · exact ⟨fun _ c12 e12 c13 e13 => take 0 el (Or.inl b2) c12 c13 e12 e13, fun y => absurd b1 y⟩
      · rw [b3, b5]
        refine ⟨fun y => absurd y (by omega), fun _ => ⟨ir_01 ha01, b4, fun y => keep 0 el (by omega), fun y => ⟨fun y2 => ⟨⟨rf, b6⟩, fun y3 c12 e12 c13 e13 => ?_, fun y3 => ?_⟩, fun y2 => ⟨b4, fun c12 e12 c13 e13 => take 0 el (by omega) c12 c13 e12 e13⟩⟩⟩⟩
        · have y3 : B 0 2 < allG H (plG N A) (N 0 12) := y3
          exact take 0 el (by omega) c12 c13 e12 e13
        · have y3 : ¬ B 0 2 < allG H (plG N A) (N 0 12) := y3
          exact keep 0 el (by omega)
    · have el : clG H (plG N A) = (if pe = 0 then 0 else clG H (plG N A)) := (if_neg z).symm
      have rc : ir (clG H (plG N A)) := cl_r
      refine m_clashesBy (d := d + 2) k5.1 D5 L5 (m_allFondBy (d := d) k5.1 k5.cl k5.win L5 ?_)
      rcases b5' with ⟨b1, b2⟩ | ⟨b1, b2, ⟨b3, b4⟩, ⟨b5, b6⟩, b7⟩
      · exact ⟨fun _ c12 e12 c13 e13 => take _ el (Or.inl b2) c12 c13 e12 e13, fun y => absurd b1 y⟩
      · rw [b3, b5]
        refine ⟨fun y => absurd y (by omega), fun _ => ⟨ir_01 ha01, ⟨rc, b4⟩, fun y => keep _ el (by omega), fun y => ⟨fun y2 => ⟨⟨rf, b6⟩, fun y3 c12 e12 c13 e13 => ?_, fun y3 => ?_⟩, fun y2 => ⟨⟨rc, b4⟩, fun c12 e12 c13 e13 => take _ el (by omega) c12 c13 e12 e13⟩⟩⟩⟩
        · have y3 : B 0 2 < allG H (plG N A) (N 0 12) := y3
          exact take _ el (by omega) c12 c13 e12 e13
        · have y3 : ¬ B 0 2 < allG H (plG N A) (N 0 12) := y3
          exact keep _ el (by omega)
