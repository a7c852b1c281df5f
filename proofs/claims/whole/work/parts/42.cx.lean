/-! CONTRACTS: best, peace -/
theorem sLo_s {F : Int → ct → ct} {n : Nat} {s : Int} {B : ct} : sLo F (n + 1) s B = sLo F n (s + 1) (F s B) := rfl
theorem PT_place {cs c : ct} {A : Int → Int} {g s : Int} (hg : 0 ≤ g ∧ g < 6) (hs : 0 ≤ s ∧ s < 6) (hP : PT cs c A g) (hf : stA A g s < 0) : PT cs (plcC c 59 g s) (updA A g s) (g + 1) := by
  obtain ⟨p1, p2, p3, p4, p5⟩ := hP
  have n3 : ∀ j, plcC c 59 g s 62 j = if j = g then s else c 62 j := fun j => by
    simp [plcC, up2]
  have n8 : ∀ j, plcC c 59 g s 67 j = if j = s then g else c 67 j := fun j => by
    simp [plcC, up2]
  have nz : ∀ k, k ≠ 62 → k ≠ 67 → ∀ j, plcC c 59 g s k j = c k j := fun k a b j => by unfold plcC; rw [up2_ne1 (by omega), up2_ne1 (by omega)]
  have hno := stA_no hf
  have hi' : ∀ p q, 0 ≤ p → p < q → q < g + 1 → updA A g s p ≠ updA A g s q := by
    intro p q a b d
    unfold updA
    rw [if_neg (by omega)]
    by_cases e : q = g
    · rw [if_pos e]; exact hno p a (by omega)
    · rw [if_neg e]; exact p5 p q a b (by omega)
  refine ⟨fun k a b d e j => by rw [nz k a b]; exact p1 k a b d e j, fun p a b => ?_, fun p a b => ?_, fun q a b => ?_, hi'⟩
  · rw [n3]; split
    · exact hs
    · exact p2 p a b
  · rw [n3]; unfold updA
    by_cases e : p = g
    · rw [if_pos e, if_pos e]
    · rw [if_neg e, if_neg e]; exact p3 p a (by omega)
  · rw [n8]
    by_cases e : q = s
    · rw [if_pos e, e]
      have h2 := stA_hit (A := updA A g s) (g := g + 1) (p := g) ⟨hg.1, by omega⟩ hi'
      have h1 : updA A g s g = s := by simp [updA]
      rw [h1] at h2; exact h2.symm
    · rw [if_neg e, p4 q a b]
      by_cases z : stA A g q < 0
      · have h1 := stA_no z
        have h0 : stA A g q = -1 := stA_free h1
        rw [h0]
        refine (stA_free (fun j j1 j2 => ?_)).symm
        unfold updA
        by_cases w : j = g
        · rw [if_pos w]; exact fun x => e x.symm
        · rw [if_neg w]; exact h1 j j1 (by omega)
      · obtain ⟨w1, w2⟩ := stA_sit hg.1 (show 0 ≤ stA A g q by omega)
        have h2 := stA_hit (A := updA A g s) (g := g + 1) (p := stA A g q) ⟨by omega, by omega⟩ hi'
        have h1 : updA A g s (stA A g q) = q := by unfold updA; rw [if_neg (by omega)]; exact w2
        rw [h1] at h2; exact h2.symm
theorem PT_back {cs c : ct} {A : Int → Int} {g s : Int} (hg : 0 ≤ g ∧ g < 6) (hs : 0 ≤ s ∧ s < 6) (hP : PT cs c (updA A g s) (g + 1)) (hf : stA A g s < 0) (hi : ∀ p q, 0 ≤ p → p < q → q < g → A p ≠ A q) : PT cs (up2 c 67 s (-1)) A g := by
  obtain ⟨p1, p2, p3, p4, p5⟩ := hP
  have hno := stA_no hf
  refine ⟨fun k a b d e j => by rw [up2_ne1 b]; exact p1 k a b d e j, fun p a b => by rw [up2_ne1 (by decide)]; exact p2 p a b, fun p a b => ?_, fun q a b => ?_, hi⟩
  · rw [up2_ne1 (by decide), p3 p a (by omega)]; unfold updA; rw [if_neg (by omega)]
  · by_cases e : q = s
    · rw [e, up2_self]
      exact (stA_free hno).symm
    · rw [up2_ne2 e, p4 q a b]
      by_cases z : stA A g q < 0
      · have h1 := stA_no z
        rw [stA_free h1]
        refine stA_free (fun j j1 j2 => ?_)
        unfold updA
        by_cases w : j = g
        · rw [if_pos w]; exact fun x => e x.symm
        · rw [if_neg w]; exact h1 j j1 (by omega)
      · obtain ⟨w1, w2⟩ := stA_sit hg.1 (show 0 ≤ stA A g q by omega)
        have h2 := stA_hit (A := updA A g s) (g := g + 1) (p := stA A g q) ⟨by omega, by omega⟩ p5
        have h1 : updA A g s (stA A g q) = q := by unfold updA; rw [if_neg (by omega)]; exact w2
        rw [h1] at h2; exact h2
theorem cl_r {H : hf} {G : ct} : ir (clG H G) := by
  have := smR_bd (f := clS H G) (B := 1) 6 0 (fun j _ _ => by unfold clS; repeat' split
                                                              all_goals omega)
  unfold clG
  exact ⟨by omega, by omega⟩
theorem k_placeFrom {H : hf} {K : SK} {cs N : ct} {pe : Int} (hs : RT H cs 59 N) (hpe : pe = 0 ∨ pe = 1) : ∀ (m : Nat) (d : Nat) (g : Int) (A : Int → Int) (c B : ct) (Q : ct → Prop), g = N 0 10 - m → 0 ≤ g → PT cs c A g → PB c B (N 0 10) pe → (∀ c', (∀ k, k ≠ 62 → k ≠ 67 → k ≠ 70 → k ≠ 71 → ∀ j, c' k j = c k j) → PT cs c' A g → PB c' (plR H N pe m g A B) (N 0 10) pe → Q c') → CV K (2 * m + d + 5) mX3_placeFrom [(2, 70), (0, g)] c Q := by
  have hn := hs.1.1.1
  have e10 := hs.2.2.1.1
  intro m
  induction m with
  | zero =>
    intro d g A c B Q hg g0 hP hB h
    have hgn : g = N 0 10 := by omega
    subst hgn
    have hR := PT_RT hs hP
    have ec : c 59 10 = N 0 10 := by rw [hP.1 59 (by decide) (by decide) (by decide) (by decide)]; exact e10
    have ha := allG_r hR
    have ey : plG N A 0 12 = N 0 12 := rfl
    rw [ey] at ha
    refine e_X3_placeFrom _ (s_X3_placeFrom_0 _ ?_)
    rw [ec]
    refine ⟨⟨⟨by omega, by omega⟩, ⟨by omega, by omega⟩⟩, fun z => absurd z (by omega), fun _ => g_fondOfAll t59 hR ?_⟩
    rw [ey, hB.2.2.1]
    refine ⟨fun z => ?_, fun z => ⟨ir_01 hpe, g_clashes t59 hR ?_⟩⟩
    · refine k_weigh (by omega) hP hB ⟨by omega, by omega⟩ ir01.1 (fun c' o p b => h c' (fun k _ _ a1 a2 j => o k a1 a2 j) p ?_)
      rw [plR, if_pos z]; exact b
    · refine k_weigh (by omega) hP hB ⟨by omega, by omega⟩ cl_r (fun c' o p b => h c' (fun k _ _ a1 a2 j => o k a1 a2 j) p ?_)
      rw [plR, if_neg z]; exact b
  | succ m ih =>
    intro d g A c B Q hg g0 hP hB h
    rw [show 2 * (m + 1) + d + 5 = 2 * m + d + 5 + 2 by omega]
    have ec : c 59 10 = N 0 10 := by rw [hP.1 59 (by decide) (by decide) (by decide) (by decide)]; exact e10
    have hg6 : 0 ≤ g ∧ g < 6 := by omega
    have loop : ∀ (n : Nat) (s : Int) (c1 B1 : ct), s = 6 - n → 0 ≤ s → (∀ k, k ≠ 62 → k ≠ 67 → k ≠ 70 → k ≠ 71 → ∀ j, c1 k j = c k j) → PT cs c1 A g → PB c1 B1 (N 0 10) pe → (∀ c', (∀ k, k ≠ 62 → k ≠ 67 → k ≠ 70 → k ≠ 71 → ∀ j, c' k j = c k j) → PT cs c' A g → PB c' (sLo (fun s B' => if stA A g s < 0 then plR H N pe m (g + 1) (updA A g s) B' else B') n s B1) (N 0 10) pe → Q c') → WV K (2 * m + d + 5 + 2) mX3_placeFrom 43 [(2, 70), (0, g), (0, s)] [] c1 Q := by
      intro n
      induction n with
      | zero =>
        intro s c1 B1 hsn s0 ho hP1 hB1 hk
        exact s_X3_placeFrom_43 g s ⟨⟨by omega, by omega⟩, fun _ => hk c1 ho hP1 hB1, fun z => absurd (by omega) z⟩
      | succ n ihn =>
        intro s c1 B1 hsn s0 ho hP1 hB1 hk
        have hs6 : 0 ≤ s ∧ s < 6 := by omega
        have e67 := hP1.2.2.2.1 s s0 hs6.2
        have r67 := stA_r (A := A) (g := g) (s := s) (by omega)
        rw [sLo_s] at hk
        refine s_X3_placeFrom_43 g s ⟨⟨by omega, by omega⟩, fun z => absurd z (by omega), fun _ => e_X3_placeOn g s (s_X3_placeOn_0 g s ?_)⟩
        rw [e67]
        refine ⟨hs6, ⟨by omega, by omega⟩, fun z => ?_, fun z => ?_⟩
        · rw [if_neg (by omega)] at hk
          exact ihn (s + 1) c1 B1 (by omega) (by omega) ho hP1 hB1 hk
        · rw [if_pos (by omega)] at hk
          have nz : ∀ k, k ≠ 62 → k ≠ 67 → ∀ j, plcC c1 59 g s k j = c1 k j := fun k a b j => by unfold plcC; rw [up2_ne1 (by omega), up2_ne1 (by omega)]
          have hB4 : PB (plcC c1 59 g s) B1 (N 0 10) pe := by
            unfold PB at hB1 ⊢
            simp only [nz 70 (by decide) (by decide), nz 71 (by decide) (by decide)]
            exact hB1
          refine k_X6_place (d := 2 * m + d + 4) t59 hg6 hs6 (ih d (g + 1) (updA A g s) _ B1 _ (by omega) (by omega) (PT_place hg6 hs6 hP1 (by omega)) hB4 (fun c6 o6 p6 b6 => ⟨hs6, fun c8 e8 => ?_⟩))
          subst e8
          refine ihn (s + 1) _ _ (by omega) (by omega) (fun k a1 a2 a3 a4 j => by rw [up2_ne1 a2, o6 k a1 a2 a3 a4, nz k a1 a2]; exact ho k a1 a2 a3 a4 j) (PT_back hg6 hs6 p6 (by omega) hP1.2.2.2.2) ?_ hk
          unfold PB at b6 ⊢
          simp only [up2_ne1 (c := c6) (k := 67) (j := s) (x := -1) (show (70 : Int) ≠ 67 by decide), up2_ne1 (c := c6) (k := 67) (j := s) (x := -1) (show (71 : Int) ≠ 67 by decide)]
          exact b6
    refine e_X3_placeFrom _ (s_X3_placeFrom_0 _ ?_)
    rw [ec]
    exact ⟨⟨⟨by omega, by omega⟩, ⟨by omega, by omega⟩⟩, fun _ => loop 6 0 c B (by decide) (by decide) (fun _ _ _ _ _ _ => rfl) hP hB h, fun z => absurd (by omega) z⟩
def iniB (c : ct) : ct := fun k j => if k = 0 then (if j = 2 then c 70 2 else if j = 3 then c 70 3 else 1) else 0
theorem wgB_R {B : ct} {A : Int → Int} {f l : Int} : wgB B A f l 0 5 = 0 ∨ wgB B A f l 0 5 = B 0 5 := by
  unfold wgB
  split
  · exact Or.inl rfl
  · exact Or.inr rfl
theorem k_find {H : hf} {N I X : ct} {K : SK} {d : Nat} {c : ct} {Q : ct → Prop} {pe : Int} (hC : CSR H c N I X) (hpe : pe = 0 ∨ pe = 1) (h2 : ir (c 70 2)) (h3 : ir (c 70 3)) (h : ∀ c', (∀ k, 108 ≤ k → ∀ j, c' k j = c k j) → CSR H c' N I X → PB c' (plR H N pe (N 0 10).toNat 0 (fun _ => 0) (iniB c)) (N 0 10) pe → Q c') : CV K (2 * (N 0 10).toNat + d + 6) mX3_find [(2, 70), (2, 24), (0, pe)] c Q := by
  have hn := hC.n
  refine e_X3_find 24 t24 pe (s_X3_find_0 24 t24 pe (g_copyFrom t59 t24 (by decide) hC.now (fun cs o1 _ r1 => ?_)))
  have loop : ∀ (n : Nat) (s : Int) (c1 : ct), s = 6 - n → 0 ≤ s → (∀ k, k ≠ 67 → ∀ j, c1 k j = cs k j) → (∀ q, 0 ≤ q → q < s → c1 67 q = -1) → WV K (2 * (N 0 10).toNat + d + 6) mX3_find 10 [(2, 70), (9, 0), (0, pe), (0, s)] [] c1 Q := by
    intro n
    induction n with
    | zero =>
      intro s c1 hs s0 ho hz
      refine s_X3_find_10 pe s ⟨⟨by omega, by omega⟩, fun _ => ⟨hpe, fun c3 e3 c5 e5 => ?_⟩, fun z => absurd (by omega) z⟩
      have n5 : ∀ k, k ≠ 70 → ∀ j, c5 k j = c1 k j := fun k a j => by subst e5; rw [up2_ne1 a]; subst e3; exact up2_ne1 a
      have z5 : c5 70 5 = 1 := by subst e5; exact up2_self
      have z4 : c5 70 4 = pe := by subst e5; rw [up2_ne2 (by decide)]; subst e3; exact up2_self
      have zz : ∀ j, j ≠ 4 → j ≠ 5 → c5 70 j = c 70 j := fun j a b => by subst e5; rw [up2_ne2 b]; subst e3; rw [up2_ne2 a, ho 70 (by decide)]; exact o1 70 (by decide) j
      have hB : PB c5 (iniB c) (N 0 10) pe := ⟨⟨zz 2 (by decide) (by decide), h2⟩, ⟨zz 3 (by decide) (by decide), h3⟩, z4, ⟨z5, Or.inr rfl⟩, fun p a _ _ => absurd (show (1 : Int) = 0 from a) (by decide)⟩
      have hP : PT cs c5 (fun _ => 0) 0 := ⟨fun k a b e f j => by rw [n5 k e]; exact ho k b j, fun p a b => by rw [n5 62 (by decide), ho 62 (by decide)]; exact (r1.1.1.2.2.2.2.1 p a b).2.2.1, fun p a b => by omega, fun q a b => by rw [n5 67 (by decide), hz q a (by omega)]; rfl, fun p q a b e => by omega⟩
      refine k_placeFrom r1 hpe (N 0 10).toNat d 0 (fun _ => 0) c5 (iniB c) _ (by omega) (by decide) hP hB (fun c' o' p' b' => ?_)
      have all : ∀ k, (k < 59 ∨ 71 < k) → ∀ j, c' k j = c k j := fun k a j => by rw [o' k (by omega) (by omega) (by omega) (by omega), n5 k (by omega), ho k (by omega)]; exact o1 k (by omega) j
      exact h c' (fun k a j => all k (by omega) j) (CSR_tr hC all) b'
    | succ n ih =>
      intro s c1 hs s0 ho hz
      refine s_X3_find_10 pe s ⟨⟨by omega, by omega⟩, fun z => absurd z (by omega), fun _ => ⟨⟨s0, by omega⟩, fun c8 e8 => ih (s + 1) c8 (by omega) (by omega) (fun k a j => by subst e8; rw [up2_ne1 a]; exact ho k a j) (fun q a b => ?_)⟩⟩
      subst e8
      by_cases e : q = s
      · rw [e]; exact up2_self
      · rw [up2_ne2 e]; exact hz q a (by omega)
  exact loop 6 0 cs (by decide) (by decide) (fun _ _ _ => rfl) (fun q a b => absurd a (by omega))
