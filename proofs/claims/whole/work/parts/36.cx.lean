/-! CONTRACTS: the public calls, sixth lot -/
theorem o_allSeen {H : hf} {N M I X : ct} {K : SK} {d : Nat} {c : ct} {Q : ct → Int → Prop} (hC : CSR H c N I X) (hM : RT H c 59 M) (hnM : M 0 10 = N 0 10) (hy : M 0 12 ≤ 9999) (h : ∀ c', offT c c' 59 → Q c' (asR H N M)) : CI K (d + 6) mX8_isAllSeenSo [(2, 0)] c Q := by
  have hI := hC.2.2.1.1.2.1
  have b1 := (rws hC).1
  have hb := b1.2.2.1
  have hg := gtR_r (f := N 23) (N 0 20).toNat 0 (-1) ⟨by decide, by decide⟩ (fun j g1 g2 => (hI j g1 (by omega)).2.2)
  refine e_X8_isAllSeenSo (s_X8_isAllSeenSo_0 (g_greatestThird (b := 20) rr1 b1 (fun i i1 i2 => (hI i i1 i2).2.2) ?_))
  have e23 : N (20 + 3) = N 23 := rfl
  rw [e23]
  unfold asR at h
  generalize hL : gtR (N 23) (N 0 20).toNat 0 (-1) = L at h hg ⊢
  have loop : ∀ (n : Nat) (y : Int) (M' c1 : ct), y = L + 1 - n → 0 ≤ y → offT c c1 59 → RT H c1 59 M' → M' 0 10 = N 0 10 → M' 0 12 ≤ 9999 + y → (∀ c', offT c c' 59 → Q c' (alR H N n M' y)) → WI K (d + 6) mX8_isAllSeenSo 13 [(2, 0), (0, L), (0, y)] [] c1 Q := by
    intro n
    induction n with
    | zero =>
      intro y M' c1 hy y0 ho hR hn1 hm h
      exact s_X8_isAllSeenSo_13 L y ⟨⟨⟨by omega, by omega⟩, ⟨by omega, by omega⟩⟩, fun _ => h c1 ho, fun z => absurd (by omega) z⟩
    | succ n ih =>
      intro y M' c1 hy y0 ho hR hn1 hm h
      have hC1 := CSR_tr hC (tr59 ho)
      have o1 := otR_01 (N := N) (M := M') (y := y) (N 0 20).toNat 0
      rw [alR] at h
      refine s_X8_isAllSeenSo_13 L y ⟨⟨⟨by omega, by omega⟩, ⟨by omega, by omega⟩⟩, fun z => absurd z (by omega), fun _ => o_oneSeen (d := d + 3) hC1 hR hn1 ⟨by omega, by omega⟩ ⟨fun z => ?_, fun z => ⟨ir_01 o1, ?_⟩⟩⟩
      · refine g_yearsGo t59 hR ⟨by decide, by decide⟩ (by omega) (fun c2 o2 _ r2 => ih (y + 1) _ c2 (by omega) (by omega) (ho.trans (yr59 o2)) r2 (by rw [yr_0 (by decide)]; exact hn1) ?_ (fun c' a => ?_))
        · rw [yr_12]; show M' 0 12 + ((1 : Int).toNat : Int) ≤ _; have : ((1 : Int).toNat : Int) = 1 := rfl; omega
        · have := h c' a
          rw [if_pos z] at this
          exact this
      · have := h c1 ho
        rw [if_neg z] at this
        exact this
  exact loop (L + 1).toNat 0 M c (by omega) (by decide) (fun _ _ _ => rfl) hM hnM (by omega) h
theorem asR_01 {H : hf} {N M : ct} : asR H N M = 0 ∨ asR H N M = 1 := by
  have key : ∀ (n : Nat) (M : ct) (y : Int), alR H N n M y = 0 ∨ alR H N n M y = 1 := by
    intro n
    induction n with
    | zero => intro M y; exact Or.inr rfl
    | succ n ih =>
      intro M y
      rw [alR]
      split
      · exact ih _ _
      · exact Or.inl rfl
  exact key _ _ _
def whR (H : hf) (N : ct) (p : Int) : Nat → Int → Int → Int
  | 0, _, a => a
  | n + 1, s, a => whR H N p n (s + 1) (if asR H N (mvG N p s) = 0 then a else bOr a (bShl 1 s))
theorem o_where {H : hf} {N I X : ct} {K : SK} {d : Nat} {c : ct} {Q : ct → Int → Prop} (hC : CSR H c N I X) {p : Int} (hp : ir p) (h0 : ¬ isG N p → Q c (-1)) (h1 : ∀ c', isG N p → loK c c' → CSR H c' N I X → Q c' (whR H N p 6 0 0)) : CI K (d + 7) mX8_where [(2, 0), (0, p)] c Q := by
  have i12 := hC.2.2.1.1.1
  have loop : isG N p → ∀ (n : Nat) (s a : Int) (c1 : ct), s = 6 - n → 0 ≤ s → CSR H c1 N I X → loK c c1 → (∀ c2, CSR H c2 N I X → loK c c2 → Q c2 (whR H N p n s a)) → WI K (d + 7) mX8_where 14 [(2, 0), (0, p), (0, a), (0, s)] [] c1 Q := by
    intro hg n
    induction n with
    | zero =>
      intro s a c1 hs s0 h1 hl hk
      exact s_X8_where_14 p a s ⟨⟨by omega, by omega⟩, fun _ => hk c1 h1 hl, fun z => absurd (by omega) z⟩
    | succ n ih =>
      intro s a c1 hs s0 h1 hl hk
      refine s_X8_where_14 p a s ⟨⟨by omega, by omega⟩, fun z => absurd z (by omega), fun _ => ?_⟩
      refine g_copyFrom (d := d + 5) t59 t24 (by decide) h1.now (fun c3 p3 _ r3 => ?_)
      refine g_moveTo (d := d + 4) t59 r3 hg ⟨s0, by omega⟩ (fun c6 p6 _ r6 => ?_)
      have p36 := p3.trans p6
      have h6 := CSR_tr h1 (tr59 p36)
      refine o_allSeen h6 r6 rfl i12.2 (fun c7 o7 => ?_)
      have h7 := CSR_tr h6 (tr59 o7)
      have l7 := (hl.trans (lo59 p36)).trans (lo59 o7)
      rw [whR] at hk
      refine ⟨fun z => ih (s + 1) _ c7 (by omega) (by omega) h7 l7 ?_, fun z => ⟨ir_01 asR_01, ih (s + 1) _ c7 (by omega) (by omega) h7 l7 ?_⟩⟩
      · rw [if_pos z] at hk; exact hk
      · rw [if_neg z] at hk; exact hk
  refine e_X8_where p (s_X8_where_0 p (g_isGuest hC p hp (fun z => ⟨fun _ => h0 z, fun z2 => absurd rfl z2⟩) (fun g1 g2 => ⟨fun z => absurd z one_ne, fun _ => ⟨ir01.2, ?_⟩⟩)))
  exact loop ⟨g1, g2⟩ 6 0 0 c (by decide) (by decide) hC loK.rf (fun c2 h2 l2 => h1 c2 ⟨g1, g2⟩ l2 h2)
def cnR (H : hf) (N : ct) (p : Int) : Nat → Int → Int → Int → Int × Int
  | 0, _, m, l => (m, l)
  | n + 1, v, m, l => if asR H N (vG N p v) = 0 then cnR H N p n (v + 1) m l else if m = 0 then cnR H N p n (v + 1) (m + 1) v else cnR H N p n (v + 1) (m + 1) l
theorem o_can {H : hf} {N I X : ct} {K : SK} {d : Nat} {c : ct} {Q : ct → Int → Prop} (hC : CSR H c N I X) {p w : Int} (hp : ir p) (hw : ir w) (h0 : ¬ (isG N p ∧ 0 ≤ w ∧ w ≤ 1) → Q c (-1)) (h1 : ∀ c', isG N p → 0 ≤ w → w ≤ 1 → loK c c' → CSR H c' N I X → Q c' (if w = 0 then (cnR H N p 10 0 0 (-5)).1 else (cnR H N p 10 0 0 (-5)).2)) : CI K (d + 7) mX8_can [(2, 0), (0, p), (0, w)] c Q := by
  have hn := hC.n
  have i12 := hC.2.2.1.1.1
  have loop : isG N p → ∀ (n : Nat) (v m l : Int) (c1 : ct), v = 10 - n → 0 ≤ v → 0 ≤ m ∧ m ≤ v → CSR H c1 N I X → loK c c1 → (∀ c2, CSR H c2 N I X → loK c c2 → Q c2 (if w = 0 then (cnR H N p n v m l).1 else (cnR H N p n v m l).2)) → WI K (d + 7) mX8_can 28 [(2, 0), (0, p), (0, w), (0, m), (0, l), (0, v)] [] c1 Q := by
    intro hg n
    induction n with
    | zero =>
      intro v m l c1 hs s0 hm h1 hl hk
      refine s_X8_can_28 p w m l v ⟨⟨by omega, by omega⟩, fun _ => ⟨fun z => ?_, fun z => ⟨hw, ?_⟩⟩, fun z => absurd (by omega) z⟩
      · have := hk c1 h1 hl
        rw [if_pos z] at this; exact this
      · have := hk c1 h1 hl
        rw [if_neg z] at this; exact this
    | succ n ih =>
      intro v m l c1 hs s0 hm h1 hl hk
      refine s_X8_can_28 p w m l v ⟨⟨by omega, by omega⟩, fun z => absurd z (by omega), fun _ => ?_⟩
      refine g_copyFrom (d := d + 5) t59 t24 (by decide) h1.now (fun c3 p3 _ r3 => ?_)
      refine g_becomeV (d := d + 1) t59 r3 ⟨hg.1, by have := hg.2; omega⟩ ⟨s0, by omega⟩ (fun c6 p6 r6 => ?_)
      have p36 := p3.trans p6
      have h6 := CSR_tr h1 (tr59 p36)
      refine o_allSeen h6 r6 rfl i12.2 (fun c7 o7 => ?_)
      have h7 := CSR_tr h6 (tr59 o7)
      have l7 := (hl.trans (lo59 p36)).trans (lo59 o7)
      rw [cnR] at hk
      refine ⟨fun z => ih (v + 1) _ _ c7 (by omega) (by omega) (by omega) h7 l7 ?_, fun z => ⟨ir_01 asR_01, fun z2 => ih (v + 1) _ _ c7 (by omega) (by omega) (by omega) h7 l7 ?_, fun z2 => ⟨⟨by omega, by omega⟩, ih (v + 1) _ _ c7 (by omega) (by omega) (by omega) h7 l7 ?_⟩⟩⟩
      · rw [if_pos z] at hk; exact hk
      · rw [if_neg z, if_pos z2] at hk; exact hk
      · rw [if_neg z, if_neg z2] at hk; exact hk
  refine e_X8_can p w (s_X8_can_0 p w (g_isGuest hC p hp (fun z => ⟨fun _ => h0 (fun b => z b.1), fun z2 => absurd rfl z2⟩) (fun g1 g2 => ⟨fun z => absurd z one_ne, fun _ => ⟨ir01.2, hw, fun z => h0 (by omega), fun z => ⟨hw, fun z2 => ?_, fun z2 => h0 (by omega)⟩⟩⟩)))
  exact loop ⟨g1, g2⟩ 10 0 0 (-5) c (by decide) (by decide) ⟨by decide, by decide⟩ hC loK.rf (fun c2 h2 l2 => h1 c2 ⟨g1, g2⟩ (by omega) z2 l2 h2)
/-- a part of the fraction in lowest terms -/
def loG (a b w : Int) : Int := if w = 0 then Int.tdiv a (Int.gcd a b) else Int.tdiv b (Int.gcd a b)
theorem tmod_dvd {a d : Int} : Int.tmod a d = 0 ↔ d ∣ a := (Int.dvd_iff_tmod_eq_zero).symm
theorem td_r {a g : Int} (ha : ir a) (hg : 0 < g) : ir (Int.tdiv a g) := by
  have h1 := ha.1
  have h2 := ha.2
  rcases Int.le_total 0 a with h0 | h0
  · rw [Int.tdiv_eq_ediv_of_nonneg h0]
    have a1 := Int.ediv_nonneg h0 (show 0 ≤ g by omega)
    have a2 := Int.ediv_le_self g h0
    exact ⟨by omega, by omega⟩
  · have e : Int.tdiv a g = -(Int.tdiv (-a) g) := by rw [Int.neg_tdiv, Int.neg_neg]
    rw [e, Int.tdiv_eq_ediv_of_nonneg (show 0 ≤ -a by omega)]
    have a1 := Int.ediv_nonneg (show 0 ≤ -a by omega) (show 0 ≤ g by omega)
    have a2 := Int.ediv_le_self g (show 0 ≤ -a by omega)
    exact ⟨by omega, by omega⟩
theorem tmd_r {a g : Int} (hg : 0 < g ∧ g ≤ 1000) : ir (Int.tmod a g) := by
  rcases Int.le_total 0 a with h0 | h0
  · have := tm_r h0 hg.1
    exact ⟨by omega, by omega⟩
  · have e : Int.tmod a g = -(Int.tmod (-a) g) := by rw [Int.neg_tmod, Int.neg_neg]
    have := tm_r (a := -a) (by omega) hg.1
    rw [e]
    exact ⟨by omega, by omega⟩
theorem o_lowest {K : SK} {d : Nat} {c : ct} {Q : ct → Int → Prop} {a b w : Int} (ha : ir a) (hb : 0 ≤ b ∧ b ≤ 6) (hw : ir w) (h0 : ¬ (0 < b ∧ 0 ≤ w ∧ w ≤ 1) → Q c (-9223372036854775808)) (h1 : 0 < b → 0 ≤ w → w ≤ 1 → Q c (loG a b w)) : CL K (d + 1) mX8_lowest [(0, a), (0, b), (0, w)] c Q := by
  have loop : 0 < b → 0 ≤ w → w ≤ 1 → ∀ (n : Nat) (e g : Int), e = b + 1 - n → 1 ≤ e → 1 ≤ g ∧ g ≤ b → g ∣ a → g ∣ b → (∀ x, 1 ≤ x → x < e → x ∣ a → x ∣ b → x ≤ g) → WLg K (d + 1) mX8_lowest 22 [(0, a), (0, b), (0, w), (0, g), (0, e)] [] c Q := by
    intro b0 w0 w1 n
    induction n with
    | zero =>
      intro e g he e1 hg ga gb hx
      have hgcd : (Int.gcd a b : Int) = g := by
        have p1 : (Int.gcd a b : Int) ≤ g := by
          refine hx _ ?_ ?_ (Int.gcd_dvd_left ..) (Int.gcd_dvd_right ..)
          · have := Int.gcd_pos_of_ne_zero_right a (show b ≠ 0 by omega)
            omega
          · have := Int.le_of_dvd b0 (Int.gcd_dvd_right a b)
            omega
        have p2 : g ≤ Int.gcd a b := by
          have hd : g ∣ (Int.gcd a b : Int) := Int.dvd_coe_gcd ga gb
          refine Int.le_of_dvd ?_ hd
          have := Int.gcd_pos_of_ne_zero_right a (show b ≠ 0 by omega)
          omega
        omega
      have h := h1 b0 w0 w1
      unfold loG at h
      rw [hgcd] at h
      refine s_X8_lowest_22 a b w g e ⟨⟨⟨by omega, by omega⟩, ⟨by omega, by omega⟩⟩, fun _ => ⟨fun z => ⟨⟨by omega, ha, by omega, by omega⟩, td_r ha (by omega), ?_⟩, fun z => ⟨hw, ⟨by omega, ⟨by omega, by omega⟩, by omega, by omega⟩, td_r ⟨by omega, by omega⟩ (by omega), ?_⟩⟩, fun z => absurd (by omega) z⟩
      · rw [if_pos z] at h; exact h
      · rw [if_neg z] at h; exact h
    | succ n ih =>
      intro e g he e1 hg ga gb hx
      refine s_X8_lowest_22 a b w g e ⟨⟨⟨by omega, by omega⟩, ⟨by omega, by omega⟩⟩, fun z => absurd z (by omega), fun _ => ⟨⟨by omega, ha, by omega, by omega⟩, fun z => ⟨⟨by omega, ⟨by omega, by omega⟩, by omega, by omega⟩, fun z2 => ?_, fun z2 => ⟨?_, ?_⟩⟩, fun z => ⟨?_, ?_⟩⟩⟩
      · exact ih (e + 1) e (by omega) (by omega) (by omega) (tmod_dvd.mp z) (tmod_dvd.mp z2) (fun x x1 x2 _ _ => by omega)
      · have := tm_r (a := b) (b := e) (by omega) (by omega); exact ⟨by omega, by omega⟩
      · refine ih (e + 1) g (by omega) (by omega) hg ga gb (fun x x1 x2 xa xb => ?_)
        by_cases q : x = e
        · subst q; exact absurd (tmod_dvd.mpr xb) z2
        · exact hx x x1 (by omega) xa xb
      · exact tmd_r (by omega)
      · refine ih (e + 1) g (by omega) (by omega) hg ga gb (fun x x1 x2 xa xb => ?_)
        by_cases q : x = e
        · subst q; exact absurd (tmod_dvd.mpr xa) z
        · exact hx x x1 (by omega) xa xb
  refine e_X8_lowest a b w (s_X8_lowest_0 a b w ⟨⟨by omega, by omega⟩, fun z => h0 (by omega), fun z => ⟨hw, fun z2 => h0 (by omega), fun z2 => ⟨hw, fun z3 => ?_, fun z3 => h0 (by omega)⟩⟩⟩)
  exact loop (by omega) (by omega) z3 (b - 1).toNat 2 1 (by omega) (by omega) ⟨by omega, by omega⟩ (Int.one_dvd _) (Int.one_dvd _) (fun x x1 x2 _ _ => by omega)
theorem o_mean {H : hf} {N I X : ct} {K : SK} {d : Nat} {c : ct} {Q : ct → Int → Prop} (hC : CSR H c N I X) {w : Int} (hw : ir w) (h0 : ¬ (0 < N 0 10 ∧ 0 ≤ w ∧ w ≤ 1) → Q c (-9223372036854775808)) (h1 : 0 < N 0 10 → 0 ≤ w → w ≤ 1 → Q c (loG (allG H N (N 0 12)) (N 0 10) w)) : CL K (d + 5) mX8_mean [(2, 0), (0, w)] c Q := by
  have hn := hC.n
  have hb := allG_r hC.now
  refine e_X8_mean w (s_X8_mean_0 w (g_fondOfAll t24 hC.now ?_))
  rw [hn.1]
  exact o_lowest (d := d + 3) ⟨by omega, by omega⟩ hn.2 hw h0 h1
def odR (H : hf) (N : ct) (q : Int) : Nat → Int → Int → Int
  | 0, _, m => m
  | n + 1, p, m => odR H N q n (p + 1) (if allG H (goG N p 1) (N 0 12) < q then m else m + 1)
theorem o_odds {H : hf} {N I X : ct} {K : SK} {d : Nat} {c : ct} {Q : ct → Int → Prop} (hC : CSR H c N I X) {q w : Int} (hq : ir q) (hw : ir w) (h0 : ∀ c', ¬ ((0 ≤ q ∧ q ≤ 999) ∧ 0 < N 0 10 ∧ 0 ≤ w ∧ w ≤ 1) → loK c c' → CSR H c' N I X → Q c' (-9223372036854775808)) (h1 : ∀ c', 0 ≤ q → q ≤ 999 → 0 < N 0 10 → 0 ≤ w → w ≤ 1 → loK c c' → CSR H c' N I X → Q c' (loG (odR H N q (N 0 10).toNat 0 0) (N 0 10) w)) : CL K (d + 5) mX8_odds [(2, 0), (0, q), (0, w)] c Q := by
  have hn := hC.n
  have loop : 0 ≤ q → q ≤ 999 → ∀ (n : Nat) (p m : Int) (c1 : ct), p = N 0 10 - n → 0 ≤ p → 0 ≤ m ∧ m ≤ p → CSR H c1 N I X → loK c c1 → odR H N q n p m = odR H N q (N 0 10).toNat 0 0 → WLg K (d + 5) mX8_odds 20 [(2, 0), (0, q), (0, w), (0, m), (0, p)] [] c1 Q := by
    intro q0 q9 n
    induction n with
    | zero =>
      intro p m c1 hp p0 hm h1' hl he
      have e := h1'.n.1
      refine s_X8_odds_20 q w m p ?_
      rw [e]
      refine ⟨⟨⟨by omega, by omega⟩, ⟨by omega, by omega⟩⟩, fun _ => ?_, fun z => absurd (by omega) z⟩
      refine o_lowest (d := d + 3) ⟨by omega, by omega⟩ hn.2 hw (fun z => h0 c1 (fun b => z b.2) hl h1') (fun b0 w0 w1 => ?_)
      have := h1 c1 q0 q9 b0 w0 w1 hl h1'
      rw [← he] at this
      exact this
    | succ n ih =>
      intro p m c1 hp p0 hm h1' hl he
      have e := h1'.n.1
      refine s_X8_odds_20 q w m p ?_
      rw [e]
      refine ⟨⟨⟨by omega, by omega⟩, ⟨by omega, by omega⟩⟩, fun z => absurd z (by omega), fun _ => ?_⟩
      refine g_copyFrom (d := d + 3) t59 t24 (by decide) h1'.now (fun c3 p3 _ r3 => ⟨⟨p0, by omega⟩, fun c7 e7 => ?_⟩)
      have r7 : RT H c7 59 (goG N p 1) := by subst e7; exact RT_gone t59 r3 (Or.inr rfl)
      have o7 : offT c1 c7 59 := fun k a j => by subst e7; rw [up2_ne1 (by omega)]; exact p3 k a j
      refine g_fondOfAll t59 r7 ?_
      have hb := allG_r r7
      have ey : goG N p 1 0 12 = N 0 12 := rfl
      rw [ey] at hb ⊢
      have h7 := CSR_tr h1' (tr59 o7)
      have l7 := hl.trans (lo59 o7)
      rw [odR] at he
      refine ⟨⟨⟨by omega, by omega⟩, hq⟩, fun z => ih (p + 1) m c7 (by omega) (by omega) (by omega) h7 l7 ?_, fun z => ih (p + 1) (m + 1) c7 (by omega) (by omega) (by omega) h7 l7 ?_⟩
      · rw [if_pos z] at he; exact he
      · rw [if_neg z] at he; exact he
  refine e_X8_odds q w (s_X8_odds_0 q w ⟨hq, fun z => h0 c (by omega) loK.rf hC, fun z => ⟨hq, fun z2 => loop (by omega) z2 (N 0 10).toNat 0 0 c (by omega) (by omega) ⟨by decide, by decide⟩ hC loK.rf rfl, fun z2 => h0 c (by omega) loK.rf hC⟩⟩)
