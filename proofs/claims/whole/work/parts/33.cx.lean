/-! CONTRACTS: the public calls, third lot -/
theorem MISC_ne {c c' X : ct} (h : MISC c X) (h0 : ∀ k, (k ≤ 5 ∨ 96 ≤ k) → k ≤ 107 → ∀ j, c' k j = c k j) : MISC c' X := MISC_congr h h0
/-- what changes in the text, the trace, the tapes alone -/
theorem CSR_misc {H : hf} {c c' N I X X' : ct} (h : CSR H c N I X) (ho : ∀ k, (6 ≤ k ∧ k ≤ 95) → ∀ j, c' k j = c k j) (h2 : X' 0 2 = X 0 2) (hM : MISC c' X') : CSR H c' N I X' := by
  obtain ⟨h1, h2', h3, h4, h5, h6⟩ := h
  refine ⟨EV_congr h1 (fun k a b j => ho k (by omega) j) (fun k a b j => ho k (by have := hou_in (EV_hou h1) a b; omega) j), EV_congr h2' (fun k a b j => ho k (by omega) j) (fun k a b j => ho k (by have := hou_in (EV_hou h2') a b; omega) j), h3, fun i a b => ?_, by rw [h2]; exact h5, hM⟩
  rw [h2] at b
  exact HR_congr (h4 i a b) (fun k g1 g2 j => ho k (by have := hou_in (hou_is (i := i) ⟨a, by have := h6.2.2.1; omega⟩) g1 g2; omega) j)
theorem toB_id {a : Int} (h : 0 ≤ a ∧ a ≤ 127) : toB a = a := by
  obtain ⟨n, rfl⟩ : ∃ n : Nat, a = n := ⟨a.toNat, by omega⟩
  have key : ∀ k : Nat, k < 128 → toB (k : Int) = k := by decide +kernel
  exact key n (by omega)
def fdX (X : ct) (a : Int) : ct := fun k j => if k = 0 ∧ j = 1 then X 0 1 + 1 else if k = 1 ∧ j = X 0 1 then a else X k j
theorem o_feed {H : hf} {N I X : ct} {K : SK} {d : Nat} {c : ct} {Q : ct → Int → Prop} (hC : CSR H c N I X) {a : Int} (ha : ir a) (h0 : ¬ (0 ≤ a ∧ a ≤ 127) → Q c (-2)) (h1 : 0 ≤ a → a ≤ 127 → X 0 1 = 100 → Q c (-4)) (h2 : ∀ c', 0 ≤ a → a ≤ 127 → X 0 1 < 100 → loK c c' → CSR H c' N I (fdX X a) → Q c' (X 0 1 + 1)) : CI K (d + 1) mX8_feed [(2, 0), (0, a)] c Q := by
  obtain ⟨m1, m2, m3, m4, m5, m6, m7⟩ := hC.2.2.2.2.2
  refine e_X8_feed a (s_X8_feed_0 a ⟨ha, fun z => h0 (by omega), fun z => ⟨ha, fun z2 => ⟨⟨by omega, by omega⟩, fun lt => ?_, fun ge => h1 (by omega) z2 (by omega)⟩, fun z2 => h0 (by omega)⟩⟩)
  rw [toB_id ⟨by omega, z2⟩]
  refine ⟨⟨⟨by omega, by omega⟩, by omega, by omega⟩, fun c7 e7 c9 e9 => ?_⟩
  have n7 : ∀ k, k ≠ 1 → ∀ j, c7 k j = c k j := fun k b j => by subst e7; exact up2_ne1 b
  have t7 : ∀ j, c7 1 j = if j = c 0 5 then a else c 1 j := fun j => by subst e7; simp only [up2, true_and]
  have n9 : ∀ k, k ≠ 0 → ∀ j, c9 k j = c7 k j := fun k b j => by subst e9; exact up2_ne1 b
  have z9 : ∀ j, j ≠ 5 → c9 0 j = c 0 j := fun j b => by subst e9; rw [up2_ne2 b]; exact n7 _ (by decide) j
  have f9 : c9 0 5 = X 0 1 + 1 := by subst e9; rw [up2_self, n7 _ (by decide), m2.1]
  rw [f9]
  have hX : ∀ j, j ≠ 1 → fdX X a 0 j = X 0 j := fun j b => by unfold fdX; rw [if_neg (fun q => b q.2), if_neg (fun q => absurd q.1 (by decide))]
  have hX1 : fdX X a 0 1 = X 0 1 + 1 := rfl
  have hXk : ∀ k, 2 ≤ k → ∀ j, fdX X a k j = X k j := fun k b j => by unfold fdX; rw [if_neg (by omega), if_neg (by omega)]
  have hXt : ∀ j, fdX X a 1 j = if j = X 0 1 then a else X 1 j := fun j => by unfold fdX; rw [if_neg (by omega)]; simp only [true_and]
  refine h2 c9 (by omega) z2 (by omega) (fun k b j => by rw [n9 k (by omega), n7 k (by omega)]) (CSR_misc hC (fun k b j => by rw [n9 k (by omega), n7 k (by omega)]) (hX 2 (by decide)) ⟨?_, ?_, ?_, ?_, fun i i1 i2 => ?_, fun i i1 i2 i3 => ?_, fun t t1 t2 => ?_⟩)
  · rw [z9 2 (by decide), hX 0 (by decide)]; exact m1
  · rw [f9, hX1]; omega
  · rw [z9 7 (by decide), hX 2 (by decide)]; exact m3
  · rw [n9 4 (by decide), n7 4 (by decide), hX 3 (by decide)]; exact m4
  · rw [hX1] at i2
    rw [n9 1 (by decide), t7, hXt, m2.1]
    by_cases z : i = X 0 1
    · rw [if_pos z, if_pos z]; omega
    · rw [if_neg z, if_neg z]; exact m5 i i1 (by omega)
  · rw [hX 3 (by decide)] at i3
    rw [n9 5 (by decide), n7 5 (by decide), hXk 2 (by decide)]; exact m6 i i1 i2 i3
  · rw [n9 (96 + 2 * t) (by omega) 1, n7 (96 + 2 * t) (by omega) 1, n9 (96 + 2 * t) (by omega) 2, n7 (96 + 2 * t) (by omega) 2, hXk 3 (by decide), hXk 4 (by decide)]
    obtain ⟨k1, k2, k3⟩ := m7 t t1 t2
    refine ⟨k1, k2, fun i i1 i2 => ?_⟩
    rw [n9 _ (by omega), n7 _ (by omega), hXk _ (by omega)]; exact k3 i i1 i2
/-- who is a neighbour from the seat s -/
def nbS (G : ct) (s : Int) : Int := if whG G s < 0 then -1 else if G 6 (whG G s) = 0 then (if G 1 (whG G s) = 4 then -1 else whG G s) else -1
def clS (H : hf) (G : ct) (s : Int) : Int := if nbS G s < 0 ∨ nbS G (aft s) < 0 then 0 else if lkG H G (G 0 12) (nbS G s) (nbS G (aft s)) < 0 ∨ lkG H G (G 0 12) (nbS G (aft s)) (nbS G s) < 0 then 1 else 0
def clG (H : hf) (G : ct) : Int := smR (clS H G) 6 0
theorem lkA_G {H : hf} {c G : ct} {t p q : Int} (hR : RT H c t G) (hp : 0 ≤ p ∧ p < G 0 10) (hq : 0 ≤ q ∧ q < G 0 10) : c (t + 9) (p * 6 + q) = lkG H G (G 0 12) p q := by
  have e10 := hR.2.2.1.1
  rw [hR.1.2.2.2 p q hp.1 (by omega) hq.1 (by omega)]
  unfold lkA lkG
  rw [hR.2.2.1.2.2.2.1, (hR.2.2.2.1.2 _).1]
  congr 1
  funext j
  simp only [fct, fcG, (hR.2.2.2.2.1 p hp.1 hp.2).1.1, (hR.2.2.2.2.1 p hp.1 hp.2).1.2.1, (hR.2.2.2.2.1 q hq.1 hq.2).1.1, hR.2.2.1.2.2.1]
theorem nbA_S {H : hf} {c G : ct} {t s : Int} (hR : RT H c t G) (hs : 0 ≤ s ∧ s < 6) : nbA c t s = nbS G s := by
  have hw := who_G hR hs
  have e10 := hR.2.2.1.1
  unfold nbA nbS
  by_cases z : c (t + 8) s < 0
  · rw [if_pos z] at hw
    rw [if_pos z, hw, if_pos (by decide)]
  · rw [if_neg z] at hw
    have w := (hR.2.1.2 s hs.1 hs.2 (by omega)).1
    have e := (hR.2.2.2.2.1 _ (show 0 ≤ c (t + 8) s by omega) (by omega)).1
    rw [if_neg z, hw, if_neg z, e.1, e.2.2.2.2.2]
theorem nbS_r {H : hf} {c G : ct} {t s : Int} (hR : RT H c t G) (hs : 0 ≤ s ∧ s < 6) : nbS G s < G 0 10 := by
  rw [← nbA_S hR hs, ← hR.2.2.1.1]
  exact nbA_lt hR.1.1 hR.1.2.2.1 hs
theorem g_clashes {H : hf} {G : ct} {K : SK} {d : Nat} {c : ct} {Q : ct → Int → Prop} {t : Int} (ht : isTab t) (hR : RT H c t G) (h : Q c (clG H G)) : CI K (d + 3) mX6_clashes [(2, t)] c Q := by
  refine k_X6_clashes ht hR.1.1 ?_
  rw [smR_congr (g := clS H G) _ _ (fun s g1 g2 => ?_)]
  · exact h
  have hs : 0 ≤ s ∧ s < 6 := ⟨g1, by omega⟩
  have ha := aft_r hs
  unfold clA clS
  rw [nbA_S hR hs, nbA_S hR ha]
  by_cases z : nbS G s < 0 ∨ nbS G (aft s) < 0
  · rw [if_pos z, if_pos z]
  · have r1 := nbS_r hR hs
    have r2 := nbS_r hR ha
    rw [if_neg z, if_neg z, lkA_G hR ⟨by omega, r1⟩ ⟨by omega, r2⟩, lkA_G hR ⟨by omega, r2⟩ ⟨by omega, r1⟩]
def r_told (H : hf) (N : ct) (w : Int) : Int := if w = 0 then N 0 12 else if w = 1 then H (N 0 13) 1 (fun _ => 0) else if w = 2 then H (N 0 13) 2 (fun _ => 0) else if w = 3 then N 0 11 else if w = 4 then emG N else if w = 5 then allG H N (N 0 12) else if w = 6 then clG H N else if w = 7 then roF (duG N) else if w = 8 then twF (duG N) else if 10 ≤ w ∧ w < 16 then whG N (w - 10) else -10001
theorem o_told {H : hf} {N I X : ct} {K : SK} {d : Nat} {c : ct} {Q : ct → Int → Prop} (hC : CSR H c N I X) {w : Int} (hw : ir w) (h : Q c (r_told H N w)) : CI K (d + 5) mX8_told [(2, 0), (0, w)] c Q := by
  have hR := hC.now
  obtain ⟨e10, e11, e12, e13, -, -⟩ := hR.2.2.1
  have hh := (hR.2.2.2.1.2 (fun _ => 0)).2
  unfold r_told at h
  refine e_X8_told w (s_X8_told_0 w ⟨hw, fun z => ?_, fun z => ⟨hR.1.1.2.2.2.1, ?_⟩, fun z => ⟨hR.1.1.2.2.2.1, ?_⟩, fun z => ?_, fun z => ?_, fun z => ?_, fun z => ?_, fun z => ?_, fun z => ?_, fun z => ?_⟩)
  · subst z; rw [e12]; exact h
  · subst z; rw [e13, hh.1]; exact h
  · subst z; rw [e13, hh.2]; exact h
  · subst z; rw [e11]; exact h
  · subst z; exact g_emptyCups t24 hR h
  · subst z; exact g_fondOfAll t24 hR h
  · subst z; exact g_clashes t24 hR h
  · subst z; exact g_round t24 hR h
  · subst z; exact g_toward t24 hR h
  · have h' : Q c (if 10 ≤ w ∧ w < 16 then whG N (w - 10) else -10001) := by
      repeat rw [if_neg (show ¬ w = _ by omega)] at h
      exact h
    refine e_X8_sitterOr _ (s_X8_sitterOr_0 _ (g_isSeat' (w - 10) ⟨by have := hw.1; omega, by have := hw.2; omega⟩ (fun q => ⟨fun _ => ?_, fun q2 => absurd rfl q2⟩) (fun s1 s2 => ⟨fun q => absurd q one_ne, fun _ => ⟨ir01.2, ⟨s1, s2⟩, ?_⟩⟩)))
    · rw [if_neg (by omega)] at h'; exact h'
    · rw [if_pos (by omega), who_G hR ⟨s1, s2⟩] at h'
      have r8 := (hR.1.1.2.2.2.2.1 _ s1 s2).2.2.2.2.2.2
      have e8 : (24 : Int) + 8 = 32 := rfl
      rw [e8] at r8 h'
      refine ⟨⟨by omega, by omega⟩, fun q => ?_, fun q => ?_⟩
      · rw [if_neg (by omega)] at h'; exact h'
      · rw [if_pos (by omega)] at h'; exact h'
theorem yr_same {H : hf} {G : ct} {m : Nat} : sameR G (yrG H G m) ∧ same0 G (yrG H G m) := by
  refine ⟨fun k a j => ?_, fun j a => ?_⟩
  · unfold yrG; rw [if_neg (by omega), if_neg (by omega), if_neg (by omega)]
  · unfold yrG; rw [if_neg (by omega), if_neg (by decide), if_neg (by decide)]
theorem yr_0 {H : hf} {G : ct} {m : Nat} {j : Int} (h : j ≠ 12) : yrG H G m 0 j = G 0 j := by
  unfold yrG; rw [if_neg (fun q => h q.2), if_neg (by decide), if_neg (by decide)]
theorem yr_12 {H : hf} {G : ct} {m : Nat} : yrG H G m 0 12 = G 0 12 + m := rfl
theorem o_pass {H : hf} {N I X : ct} {K : SK} {d : Nat} {c : ct} {Q : ct → Int → Prop} (hC : CSR H c N I X) {n : Int} (hn : ir n) (h0 : ¬ (0 ≤ n ∧ n ≤ 60) → Q c (-2)) (h1 : 0 ≤ n → n ≤ 60 → ¬ N 0 12 + n ≤ 9999 → Q c (-3)) (h2 : ∀ c', 0 ≤ n → n ≤ 60 → N 0 12 + n ≤ 9999 → loK c c' → CSR H c' (yrG H N n.toNat) I X → Q c' (N 0 12 + n)) : CI K (d + 6) mX8_pass [(2, 0), (0, n)] c Q := by
  have hR := hC.now
  have e12 := hR.2.2.1.2.2.1
  have i12 := hC.2.2.1.1.1
  refine e_X8_pass n (s_X8_pass_0 n ⟨hn, fun z => h0 (by omega), fun z => ⟨hn, fun z2 => ?_, fun z2 => h0 (by omega)⟩⟩)
  rw [e12]
  refine ⟨⟨by omega, by omega⟩, fun le => ?_, fun gt => h1 (by omega) z2 gt⟩
  refine g_yearsGo t24 hR ⟨by omega, by omega⟩ (by omega) (fun c' ho hout hR' => ?_)
  have hz : ZB c' 24 := ZB_by hC.1.2.1 (ho.2 10 (by decide)) (fun j => Or.inl (ho.1 _ (by decide) (by decide) (by decide) (by decide) (by decide) j)) (fun p g1 g2 => by
    have := hout p (by omega)
    exact ⟨this.2, this.1, ho.1 _ (by decide) (by decide) (by decide) (by decide) (by decide) p⟩)
  have hof : offT c c' 24 := fun k a j => ho.1 k (by omega) (by omega) (by omega) (by omega) (by omega) j
  have hCC := CSR_tab hC hof yr_same.1 yr_same.2 hR' hz (by rw [yr_0 (by decide)]; exact Int.le_refl _) (by rw [yr_12]; omega) (by rw [yr_0 (by decide)]; exact hC.2.2.2.2.1.1)
  have e : c' 24 12 = N 0 12 + n := by rw [hR'.2.2.1.2.2.1, yr_12]; omega
  rw [e]
  exact h2 c' (by omega) z2 le (lo24 hof) hCC
theorem yr59 {c c' : ct} (h : offYr c c' 59) : offT c c' 59 := fun k a j => h.1 k (by omega) (by omega) (by omega) (by omega) (by omega) j
def r_on (H : hf) (N : ct) (n w : Int) : Int := if w = 0 then emG (yrG H N n.toNat) else if w = 1 then usG (yrG H N n.toNat) - usG N else fdG H (yrG H N n.toNat) (N 0 12 + n.toNat) (w - 10)
theorem o_usedMore {H : hf} {N M I X : ct} {K : SK} {d : Nat} {c : ct} {Q : ct → Int → Prop} (hC : CSR H c N I X) (hM : RT H c 59 M) (h : Q c (usG M - usG N)) : CI K (d + 2) mX8_usedMore [(2, 0)] c Q :=
  e_X8_usedMore (s_X8_usedMore_0 (g_usedOfAll t59 hM (g_usedOfAll t24 hC.now h)))
theorem o_on {H : hf} {N I X : ct} {K : SK} {d : Nat} {c : ct} {Q : ct → Int → Prop} (hC : CSR H c N I X) {n w : Int} (hn : ir n) (hw : ir w) (h0 : ¬ (w = 0 ∨ w = 1 ∨ isG N (w - 10)) → Q c (-10001)) (h1 : (w = 0 ∨ w = 1 ∨ isG N (w - 10)) → ¬ (0 ≤ n ∧ n ≤ 60) → Q c (-10002)) (h2 : ∀ c', (w = 0 ∨ w = 1 ∨ isG N (w - 10)) → 0 ≤ n → n ≤ 60 → loK c c' → CSR H c' N I X → Q c' (r_on H N n w)) : CI K (d + 6) mX8_on [(2, 0), (0, n), (0, w)] c Q := by
  have i12 := hC.2.2.1.1.1
  have seg : (w = 0 ∨ w = 1 ∨ isG N (w - 10)) → WI K (d + 6) mX8_on 26 [(2, 0), (0, n), (0, w), (0, w - 10)] [] c Q := by
    intro hw3
    refine s_X8_on_26 n w _ ⟨hn, fun z => h1 hw3 (by omega), fun z => ⟨hn, fun z2 => ?_, fun z2 => h1 hw3 (by omega)⟩⟩
    refine g_copyFrom (d := d + 4) t59 t24 (by decide) hC.now (fun c1 o1 _ r1 => ?_)
    refine g_yearsGo t59 r1 ⟨by omega, by omega⟩ (by omega) (fun c2 o2 _ r2 => ?_)
    have o12 := o1.trans (yr59 o2)
    have hC2 := CSR_tr hC (tr59 o12)
    have h3 := h2 c2 hw3 (by omega) z2 (lo59 o12) hC2
    unfold r_on at h3
    refine ⟨fun q => ?_, fun q => ⟨hw, fun q1 => ?_, fun q1 => ⟨hw, ?_⟩⟩⟩
    · rw [if_pos q] at h3; exact g_emptyCups t59 r2 h3
    · rw [if_neg q, if_pos q1] at h3; exact o_usedMore (d := d + 3) hC2 r2 h3
    · rw [if_neg q, if_neg q1] at h3
      have hg : isG N (w - 10) := by rcases hw3 with a | a | a; · exact absurd a q
                                     · exact absurd a q1
                                     · exact a
      refine g_fondOf t59 r2 ⟨hg.1, by rw [yr_0 (by decide)]; exact hg.2⟩ ?_
      rw [yr_12]; exact h3
  refine e_X8_on n w (s_X8_on_0 n w ⟨fun z => seg (Or.inl z), fun z => ⟨hw, fun z1 => seg (Or.inr (Or.inl z1)), fun z1 => ⟨hw, ?_⟩⟩⟩)
  exact g_isGuest' hC (w - 10) ⟨by have := hw.1; omega, by have := hw.2; omega⟩ (fun q => ⟨fun _ => h0 (fun b => b.elim z (fun b => b.elim z1 q)), fun q2 => absurd rfl q2⟩) (fun s1 s2 => ⟨fun q => absurd q one_ne, fun _ => ⟨ir01.2, seg (Or.inr (Or.inr ⟨s1, s2⟩))⟩⟩)
/-- the years until so many cups are empty -/
def soR (H : hf) (q : Int) : Nat → ct → Int → Int
  | 0, _, _ => -5
  | n + 1, M, y => if q ≤ cnt6 (emG M) then y else soR H q n (yrG H M 1) (y + 1)
theorem o_soon {H : hf} {N I X : ct} {K : SK} {d : Nat} {c : ct} {Q : ct → Int → Prop} (hC : CSR H c N I X) {q : Int} (hq : ir q) (h0 : ¬ (0 ≤ q ∧ q ≤ 6) → Q c (-2)) (h1 : ∀ c', 0 ≤ q → q ≤ 6 → loK c c' → CSR H c' N I X → Q c' (soR H q 61 N 0)) : CI K (d + 6) mX8_soon [(2, 0), (0, q)] c Q := by
  have i12 := hC.2.2.1.1.1
  have loop : ∀ (n : Nat) (y : Int) (M c1 : ct), y = 61 - n → 0 ≤ y → 0 ≤ q → q ≤ 6 → offT c c1 59 → RT H c1 59 M → M 0 12 ≤ 10000 + y → (∀ c', loK c c' → CSR H c' N I X → Q c' (soR H q n M y)) → WI K (d + 6) mX8_soon 29 [(2, 0), (0, q), (0, y)] [] c1 Q := by
    intro n
    induction n with
    | zero =>
      intro y M c1 hy y0 q0 q6 ho hR hM h
      exact s_X8_soon_29 q y ⟨⟨by omega, by omega⟩, fun _ => h c1 (lo59 ho) (CSR_tr hC (tr59 ho)), fun z => absurd (by omega) z⟩
    | succ n ih =>
      intro y M c1 hy y0 q0 q6 ho hR hM h
      have hm := emG_r hR
      have hb : 0 ≤ cnt6 (emG M) ∧ cnt6 (emG M) ≤ 6 := by unfold cnt6; omega
      refine s_X8_soon_29 q y ⟨⟨by omega, by omega⟩, fun z => absurd z (by omega), fun _ => g_emptyCups (d := d + 3) t59 hR (k_bitCount (d := d + 4) hm ⟨⟨⟨by omega, by omega⟩, hq⟩, fun lt => ?_, fun ge => ?_⟩)⟩
      · refine g_yearsGo t59 hR ⟨by decide, by decide⟩ (by omega) (fun c2 o2 _ r2 => ih (y + 1) _ c2 (by omega) (by omega) q0 q6 (ho.trans (yr59 o2)) r2 ?_ (fun c' a b => ?_))
        · rw [yr_12]; show M 0 12 + ((1 : Int).toNat : Int) ≤ _; have : ((1 : Int).toNat : Int) = 1 := rfl; omega
        · have := h c' a b
          rw [soR, if_neg (by omega)] at this
          exact this
      · have := h c1 (lo59 ho) (CSR_tr hC (tr59 ho))
        rw [soR, if_pos (by omega)] at this
        exact this
  refine e_X8_soon q (s_X8_soon_0 q ⟨hq, fun z => h0 (by omega), fun z => ⟨hq, fun z2 => ?_, fun z2 => h0 (by omega)⟩⟩)
  exact g_copyFrom (d := d + 4) t59 t24 (by decide) hC.now (fun c1 o1 _ r1 => loop 61 0 N c1 (by decide) (by decide) (by omega) z2 o1 r1 (by omega) (fun c' a b => h1 c' (by omega) z2 a b))
