/-! HOUSES: a whole text, read by the developers' reader -/
def wtP (F : Int → Int) (r : cl4) : Int := if 2 ≤ r.1 then 0 else if topB (foL F r.2.2 []) = 0 then 0 else if r.1 = 0 then r.2.1 else -r.2.1
def swP (F : Int → Int) : List cl4 → Int
  | [] => 0
  | r :: l => wtP F r + swP F l
def thP (s : Nat) : List cl4 → Int → Int
  | [], a => a
  | r :: l, a => thP s l (if r.1 = s then r.2.1 else a)
/-- a house so far -/
def HSt (c : ct) (h : Int) (f : (Int → Int) → Int) (th wi : Int) : Prop := WFH c h ∧ (∀ F, likA c h F = f F) ∧ c h 5 = th ∧ c h 6 = wi ∧ frA c h (c h 4) = c h 1
theorem HSt.A {c : ct} {h : Int} {f : (Int → Int) → Int} {th wi : Int} (s : HSt c h f th wi) : AYH c h := ⟨s.1.2.2.2.1, s.1.2.2.2.2.1.2⟩
theorem CLS.F {c c' : ct} {h : Int} {r : cl4} (s : CLS c c' h r) : rdF c c' h := s.1
theorem HSt_step {c c' : ct} {h : Int} {f : (Int → Int) → Int} {th wi : Int} {r : cl4} (s : HSt c h f th wi) (t : CLS c c' h r) (h10 : c h 4 < 10) (hl : c' h 1 ≤ 100) (h4 : r.1 < 4) (hn : 0 ≤ r.2.1 ∧ r.2.1 ≤ 99) (he : 2 ≤ r.1 → r.2.2 = []) (hw : r.1 < 2 → wlk r.2.2 0 1) : HSt c' h (fun F => f F + wtP F r) (if r.1 = 2 then r.2.1 else th) (if r.1 = 3 then r.2.1 else wi) := by
  obtain ⟨⟨w1, w2, w3, w4, ⟨w5, w6⟩, w7⟩, s2, s3, s4, s5⟩ := s
  obtain ⟨t1, t2, t3, t4, t5, t6, t7, t8, t9, t10⟩ := t
  have ef : ∀ w, 0 ≤ w → w ≤ c h 4 → frA c' h w = frA c h w := fun w a b => by
    unfold frA
    by_cases z : w = 0
    · rw [if_pos z, if_pos z]
    · rw [if_neg z, if_neg z]; exact (t8 (w - 1) (by omega)).2
  have old : ∀ w, 0 ≤ w → w < c h 4 → (0 ≤ frA c' h w ∧ frA c' h w ≤ c' (h + 3) w ∧ c' (h + 3) w ≤ c h 1) ∧ (-99 ≤ c' (h + 2) w ∧ c' (h + 2) w ≤ 99) ∧ wfT (c' (h + 1)) (c' (h + 3) w - frA c' h w).toNat (frA c' h w) 0 ∧ ∀ F, wtA c' h F w = wtA c h F w := fun w a b => by
    obtain ⟨o1, o2, o3⟩ := w7 w a b
    rw [ef w a (by omega), (t8 w b).1, (t8 w b).2]
    refine ⟨o1, o2, wfT_congr _ _ _ (fun j g1 g2 => (t2 j (by omega)).symm) o3, fun F => ?_⟩
    unfold wtA
    rw [ef w a (by omega), (t8 w b).1, (t8 w b).2]
    rw [evL_congr (T := c (h + 1)) (T' := c' (h + 1)) (F := F) (F' := F) (fun _ _ _ => rfl) _ _ _ _ o3 (fun j g1 g2 => (t2 j (by omega)).symm)]
  have sums : ∀ F, smR (wtA c' h F) (c h 4).toNat 0 = smR (wtA c h F) (c h 4).toNat 0 := fun F => smR_congr _ _ (fun j g1 g2 => (old j g1 (by omega)).2.2.2 F)
  have m5 : 0 ≤ c' h 5 ∧ c' h 5 ≤ 99 := by rw [t6]; split; exact hn; exact w2
  have m6 : 0 ≤ c' h 6 ∧ c' h 6 ≤ 99 := by rw [t7]; split; exact hn; exact w3
  by_cases z : 2 ≤ r.1
  · have e0 := he z
    have e4 := t9 z
    have e1 : c' h 1 = c h 1 := by rw [t3, e0]; simp
    refine ⟨⟨by rw [e4]; exact w1, m5, m6, t5.1, ⟨⟨by omega, hl⟩, t5.2⟩, fun w a b => ?_⟩, fun F => ?_, by rw [t6, s3], by rw [t7, s4], ?_⟩
    · rw [e4] at b
      obtain ⟨o1, o2, o3, -⟩ := old w a b
      exact ⟨⟨o1.1, o1.2.1, by omega⟩, o2, o3⟩
    · have := s2 F
      unfold likA at this ⊢
      show _ = f F + wtP F r
      rw [e4, sums F, this, show wtP F r = 0 from if_pos z]; simp
    · rw [e4, ef _ w1.1 (Int.le_refl _), s5, e1]
  · obtain ⟨q1, q2, q3⟩ := t10 (by omega)
    have efn := ef _ w1.1 (Int.le_refl _)
    have fr1 : frA c' h (c' h 4) = c' h 1 := by
      unfold frA
      rw [q1, if_neg (by omega), show c h 4 + 1 - 1 = c h 4 by omega]
      exact q3
    have nn : (c' (h + 3) (c h 4) - frA c' h (c h 4)).toNat = r.2.2.length := by rw [q3, efn, s5, t3]; omega
    refine ⟨⟨by omega, m5, m6, t5.1, ⟨⟨by omega, hl⟩, t5.2⟩, fun w a b => ?_⟩, fun F => ?_, by rw [t6, s3], by rw [t7, s4], fr1⟩
    · by_cases y : w = c h 4
      · subst y
        rw [efn, s5, q3, q2]
        refine ⟨⟨by omega, by omega, Int.le_refl _⟩, by split <;> omega, ?_⟩
        rw [show (c' h 1 - c h 1).toNat = r.2.2.length by omega]
        exact lsAt_wf _ _ _ t4 (hw (by omega))
      · obtain ⟨o1, o2, o3, -⟩ := old w a (by omega)
        exact ⟨⟨o1.1, o1.2.1, by omega⟩, o2, o3⟩
    · have := s2 F
      have last : wtA c' h F (c h 4) = wtP F r := by
        unfold wtA wtP
        rw [nn, efn, s5, evL_fo _ _ _ t4, if_neg z, q2]
      unfold likA at this ⊢
      show _ = f F + wtP F r
      rw [show (c' h 4).toNat = (c h 4).toNat + 1 by omega, sm_snoc, show 0 + ((c h 4).toNat : Int) = c h 4 by omega, last, sums F, ← this]
      omega
theorem k_readInto {K : SK} {d : Nat} {h : Int} {T : Int → Int} {L : Int} {c : ct} {Q : ct → Int → Prop} (hh : isHou h) (hT : ∀ i, 0 ≤ i → i < L → c 1 i = T i ∧ 0 ≤ T i ∧ T i ≤ 127) (hL : 0 ≤ L ∧ L ≤ 100) (h0 : (pH T L 10 0).1 ≠ -1 → ∀ c', (∀ k, k ≠ 3 → (k < h ∨ h + 3 < k) → ∀ j, c' k j = c k j) → 0 ≤ (pH T L 10 0).1 → (pH T L 10 0).1 ≤ 100 → Q c' (pH T L 10 0).1) (h1 : (pH T L 10 0).1 = -1 → ∀ c', (∀ k, k ≠ 3 → (k < h ∨ h + 3 < k) → ∀ j, c' k j = c k j) → HSt c' h (fun F => 2 + swP F (pH T L 10 0).2) (thP 2 (pH T L 10 0).2 5) (thP 3 (pH T L 10 0).2 6) → Q c' (-1)) : CI K (d + 22) mX4_readInto [(2, 3), (2, h), (2, 1), (0, L)] c Q := by
  have h7 := hou_ge hh
  have loop : ∀ (n : Nat) (a4 : Int) (c1 : ct) (f : (Int → Int) → Int) (th wi : Int) (Q : ct → Int → Prop), a4 = 11 - n → n ≤ 10 → RD c1 h T L → HSt c1 h f th wi → (0 ≤ c1 3 3 ∧ c1 3 3 ≤ L) → c1 h 1 ≤ c1 3 3 → c1 h 4 + n ≤ 10 → ((pH T L n (c1 3 3)).1 ≠ -1 → ∀ c', rdF c1 c' h → 0 ≤ (pH T L n (c1 3 3)).1 → (pH T L n (c1 3 3)).1 ≤ 100 → Q c' (pH T L n (c1 3 3)).1) → ((pH T L n (c1 3 3)).1 = -1 → ∀ c', rdF c1 c' h → HSt c' h (fun F => f F + swP F (pH T L n (c1 3 3)).2) (thP 2 (pH T L n (c1 3 3)).2 th) (thP 3 (pH T L n (c1 3 3)).2 wi) → Q c' (-1)) → WI K (d + 22) mX4_readInto 35 [(2, 3), (9, 0), (9, 0), (9, 0), (0, a4)] [] c1 Q := by
    intro n
    induction n with
    | zero =>
      intro a4 c1 f th wi Q ha hn hR hS hp hc h4 q0 q1
      refine s_X4_readInto_35 a4 ⟨⟨by omega, by omega⟩, fun _ => q0 (show c1 3 3 ≠ -1 by omega) c1 ⟨fun _ _ _ _ => rfl, fun _ _ _ => rfl⟩ hp.1 (show c1 3 3 ≤ 100 by omega), fun z => absurd (by omega) z⟩
    | succ n ih =>
      intro a4 c1 f th wi Q ha hn hR hS hp hc h4 q0 q1
      have w := hS.1
      obtain ⟨⟨k1, k2⟩, k3, k4⟩ := pC_ok (T := T) hp.2
      rw [pH] at q0 q1
      refine s_X4_readInto_35 a4 ⟨⟨by omega, by omega⟩, fun z => absurd z (by omega), fun _ => k_isClause (d := d + 1) hR hS.A hp ⟨w.2.2.2.2.1.1.1, hc⟩ ⟨w.1.1, by omega⟩ (fun z c3 r3 p3 => bz ?_) (fun z c3 t3 p3 => bo ?_)⟩
      · rw [if_pos z] at q0
        rw [p3]
        exact q0 (show (pC T L (c1 3 3)).2.1 ≠ -1 by omega) c3 r3 (show 0 ≤ (pC T L (c1 3 3)).2.1 by omega) (show (pC T L (c1 3 3)).2.1 ≤ 100 by omega)
      · rw [if_neg z] at q0 q1
        obtain ⟨k5, k6, k7, k8, k9⟩ := k4 z
        have R3 := RD_F hR t3.F
        have n3 := t3.2.2.1
        have S3 := HSt_step hS t3 (by omega) (by omega) k6 k7 k8 k9
        have m3 : c3 h 4 ≤ c1 h 4 + 1 := by
          by_cases y : 2 ≤ (pC T L (c1 3 3)).2.2.1
          · have := t3.2.2.2.2.2.2.2.2.1 y; omega
          · have := (t3.2.2.2.2.2.2.2.2.2 (by omega)).1; omega
        rw [R3.2.2.1.1, p3]
        refine ⟨⟨⟨by omega, by omega⟩, ⟨by omega, by omega⟩⟩, fun y => ?_, fun y => ?_⟩
        · rw [if_neg (by omega)] at q0 q1
          refine ⟨fun y2 => ?_, fun y2 => ⟨⟨by omega, by omega⟩, k_isSign (d := d + 19) R3 (by omega) ⟨by decide, by decide⟩ (fun y3 => bz ?_) (fun c9 y3 o9 p9 _ => bo ?_)⟩⟩
          · rw [if_pos (by omega)] at q0
            exact q0 (show (pC T L (c1 3 3)).2.1 ≠ -1 by omega) c3 t3.F (show 0 ≤ (pC T L (c1 3 3)).2.1 by omega) (show (pC T L (c1 3 3)).2.1 ≤ 100 by omega)
          · rw [p3] at y3
            rw [if_neg (by omega), if_neg y3] at q0
            rw [p3]
            exact q0 (show (pC T L (c1 3 3)).2.1 ≠ -1 by omega) c3 t3.F (show 0 ≤ (pC T L (c1 3 3)).2.1 by omega) (show (pC T L (c1 3 3)).2.1 ≤ 100 by omega)
          · rw [p3] at y3 p9
            rw [if_neg (by omega), if_pos y3] at q0 q1
            have e9 : ∀ k, k ≠ 3 → ∀ j, c9 k j = c3 k j := o9.1
            have R9 := RD_o R3 o9
            have S9 : HSt c9 h (fun F => f F + wtP F (pC T L (c1 3 3)).2.2) (if (pC T L (c1 3 3)).2.2.1 = 2 then (pC T L (c1 3 3)).2.2.2.1 else th) (if (pC T L (c1 3 3)).2.2.1 = 3 then (pC T L (c1 3 3)).2.2.2.1 else wi) := by
              have eh : ∀ k, h ≤ k → k ≤ h + 3 → ∀ j, c9 k j = c3 k j := fun k a b j => e9 k (by omega) j
              obtain ⟨u1, u2, u3, u4, u5⟩ := S3
              refine ⟨WFH_congr u1 eh, fun F => ?_, by rw [eh h (by omega) (by omega)]; exact u3, by rw [eh h (by omega) (by omega)]; exact u4, ?_⟩
              · rw [← likA_congr (c := c3) (c' := c9) (F := F) u1 (fun _ _ _ => rfl) eh]; exact u2 F
              · unfold frA at u5 ⊢
                simp only [eh h (by omega) (by omega), eh (h + 3) (by omega) (by omega)]
                exact u5
            refine ih (a4 + 1) c9 _ _ _ Q (by omega) (by omega) R9 S9 (by omega) (by rw [e9 h (by omega)]; omega) (by rw [e9 h (by omega)]; omega) ?_ ?_
            · rw [p9]; exact fun y4 c' r' g1 g2 => q0 y4 c' ((t3.F.trans o9.F).trans r') g1 g2
            · rw [p9]
              intro y4 c' r' s'
              refine q1 y4 c' ((t3.F.trans o9.F).trans r') ?_
              simp only [swP, thP, ← Int.add_assoc]
              exact s'
        · rw [if_pos (by omega)] at q1
          refine q1 rfl c3 t3.F ?_
          simp only [swP, thP, Int.add_zero]
          exact S3
  refine e_X4_readInto h hh 1 i1 L (s_X4_readInto_0 h hh 1 i1 L (fun c1 e1 c2 e2 => ⟨⟨by omega, by omega⟩, fun c4 e4 c5 e5 => ?_⟩))
  have f5 : ∀ k, k ≠ 3 → ∀ j, c5 k j = c k j := fun k a j => by rw [e5, up2_ne1 a, e4, up2_ne1 a, e2, up2_ne1 a, e1, up2_ne1 a]
  have g0 : c5 3 0 = h := by rw [e5, up2_ne2 (by decide), e4, up2_ne2 (by decide), e2, up2_ne2 (by decide), e1, up2_self]
  have g1 : c5 3 1 = 1 := by rw [e5, up2_ne2 (by decide), e4, up2_ne2 (by decide), e2, up2_self]
  have g2 : c5 3 2 = L := by rw [e5, up2_ne2 (by decide), e4, up2_self, if_neg (by omega)]
  have g3 : c5 3 3 = 0 := by rw [e5, up2_self]
  rw [g0]
  refine ⟨hh, k_clear (d := d + 20) hh (fun c7 m1 m2 m3 m4 m5 m6 => ?_)⟩
  have p3 : ∀ j, c7 3 j = c5 3 j := m1 3 (by omega)
  have R7 : RD c7 h T L := ⟨⟨by rw [p3, g0], hh⟩, by rw [p3, g1], ⟨by rw [p3, g2], hL⟩, fun i a b => by rw [m1 1 (by omega), f5 1 (by decide)]; exact hT i a b⟩
  have S7 : HSt c7 h (fun _ => 2) 5 6 := by
    refine ⟨⟨by rw [m3]; decide, by rw [m4]; decide, by rw [m5]; decide, Or.inl m6, ⟨by rw [m2]; decide, fun _ j a b => by rw [m2] at b; omega⟩, fun w a b => by rw [m3] at b; omega⟩, fun F => ?_, m4, m5, ?_⟩
    · unfold likA; rw [m3]; rfl
    · unfold frA; rw [m3, m2]; rfl
  have z33 : c7 3 3 = 0 := by rw [p3, g3]
  have back : ∀ c', rdF c7 c' h → ∀ k, k ≠ 3 → (k < h ∨ h + 3 < k) → ∀ j, c' k j = c k j := fun c' r k a b j => by rw [r.1 k a b, m1 k (by omega)]; exact f5 k a j
  refine loop 10 1 c7 _ 5 6 Q (by decide) (by decide) R7 S7 (by omega) (by rw [m2]; omega) (by rw [m3]; decide) ?_ ?_
  · rw [z33]; exact fun y c' r' b1 b2 => h0 y c' (back c' r') b1 b2
  · rw [z33]; exact fun y c' r' s' => h1 y c' (back c' r') s'
/-- the houses with one more -/
def hsH (H : hf) (i : Int) (l : List cl4) : hf := fun a k F => if a = i then (if k = 0 then 2 + swP F l else if k = 1 then thP 2 l 5 else thP 3 l 6) else H a k F
theorem RT_H {H H' : hf} {c G : ct} {t : Int} (hR : RT H c t G) (hH : HR H' c (G 0 13)) : RT H' c t G := ⟨hR.1, hR.2.1, hR.2.2.1, hH, hR.2.2.2.2⟩
theorem HR_H {H H' : hf} {c : ct} {i : Int} (h : HR H c i) (he : ∀ k F, H' i k F = H i k F) : HR H' c i := ⟨h.1, fun F => by rw [he, he, he]; exact h.2 F⟩
theorem EV_H {H H' : hf} {c G : ct} {e : Int} (h : EV H c e G) (he : ∀ k F, H' (G 0 13) k F = H (G 0 13) k F) : EV H' c e G := ⟨RT_H h.1 (HR_H h.1.2.2.2.1 he), h.2⟩
theorem o_house {H : hf} {N I X : ct} {K : SK} {d : Nat} {c : ct} {Q : ct → Int → Prop} (hC : CSR H c N I X) (h0 : X 0 2 = 6 → Q c (-4)) (h1 : X 0 2 < 6 → (pH (X 1) (X 0 1) 10 0).1 ≠ -1 → ∀ c', loK c c' → CSR H c' N I (x0X X 1 0) → Q c' ((-10) - (pH (X 1) (X 0 1) 10 0).1)) (h2 : X 0 2 < 6 → (pH (X 1) (X 0 1) 10 0).1 = -1 → ∀ c', loK c c' → CSR (hsH H (X 0 2) (pH (X 1) (X 0 1) 10 0).2) c' (hoG N (X 0 2)) I (x0X (x0X X 1 0) 2 (X 0 2 + 1)) → Q c' (X 0 2)) : CI K (d + 23) mX8_house [(2, 0)] c Q := by
  have hC' := hC
  obtain ⟨E1, E2, hI, hHs, ⟨n13, i13⟩, m1, m2, m3, m4, m5, m6, m7⟩ := hC
  have lo13 := E1.1.2.2.1.2.2.2.2.1
  have lo13I := E2.1.2.2.1.2.2.2.2.1
  refine e_X8_house (s_X8_house_0 ?_)
  rw [m3.1, m2.1]
  refine ⟨⟨by omega, by omega⟩, fun z => ?_, fun z => h0 (by omega)⟩
  have x6 : 0 ≤ X 0 2 ∧ X 0 2 < 6 := ⟨m3.2.1, z⟩
  have eh : hou (X 0 2) = 72 + 4 * X 0 2 := by unfold hou; rw [if_neg (by omega)]
  have hh : isHou (72 + 4 * X 0 2) := by rw [← eh]; exact hou_is ⟨by omega, x6.2⟩
  have other : ∀ i, -1 ≤ i → i < X 0 2 → ∀ k, hou i ≤ k → k ≤ hou i + 3 → k ≠ 3 ∧ (k < 72 + 4 * X 0 2 ∨ 72 + 4 * X 0 2 + 3 < k) := fun i a b k k1 k2 => by
    unfold hou at k1 k2
    split at k1 <;> split at k2 <;> omega
  -- all but the reader and the house read into stays
  have keep : ∀ c6, (∀ k, k ≠ 0 → k ≠ 3 → (k < 72 + 4 * X 0 2 ∨ 72 + 4 * X 0 2 + 3 < k) → ∀ j, c6 k j = c k j) → (∀ j, j ≠ 5 → c6 0 j = c 0 j) → c6 0 5 = 0 → loK c c6 ∧ CSR H c6 N I (x0X X 1 0) := fun c6 f1 f2 f3 => by
    refine ⟨fun k a j => f1 k (by omega) (by omega) (by omega) j, ?_, ?_, hI, fun i a b => ?_, ?_, ?_, ?_, ?_, ?_, ?_, ?_, ?_⟩
    · exact EV_congr E1 (fun k a b j => f1 k (by omega) (by omega) (by omega) j) (fun k a b j => by have := other _ lo13 n13 k a b; have := EV_hou E1; have := hou_ge this; exact f1 k (by omega) (by omega) (by omega) j)
    · exact EV_congr E2 (fun k a b j => f1 k (by omega) (by omega) (by omega) j) (fun k a b j => by have := other _ lo13I i13 k a b; have := EV_hou E2; have := hou_ge this; exact f1 k (by omega) (by omega) (by omega) j)
    · rw [x0_k (Or.inr (by decide))] at b
      refine HR_congr (hHs i a b) (fun k k1 k2 j => ?_)
      have := other i a b k k1 k2
      have := hou_ge (hou_is ⟨a, by omega⟩)
      exact f1 k (by omega) (by omega) (by omega) j
    · rw [x0_k (Or.inr (by decide))]; exact ⟨n13, i13⟩
    · rw [f2 2 (by decide), x0_k (Or.inr (by decide))]; exact m1
    · rw [f3, x0_s]; exact ⟨rfl, by decide, by decide⟩
    · rw [f2 7 (by decide), x0_k (Or.inr (by decide))]; exact m3
    · rw [f1 4 (by decide) (by decide) (by omega), x0_k (Or.inr (by decide))]; exact m4
    · intro i a b; rw [x0_s] at b; omega
    · intro i a b e
      rw [x0_k (Or.inr (by decide))] at e
      rw [f1 5 (by decide) (by decide) (by omega), x0_k (Or.inl (by decide))]; exact m6 i a b e
    · intro t a b
      rw [f1 _ (by omega) (by omega) (by omega), f1 _ (by omega) (by omega) (by omega), x0_k (Or.inl (by decide)), x0_k (Or.inl (by decide))]
      obtain ⟨y1, y2, y3⟩ := m7 t a b
      exact ⟨y1, y2, fun i a b => by rw [f1 _ (by omega) (by omega) (by omega), x0_k (Or.inl (by omega))]; exact y3 i a b⟩
  refine ⟨x6, k_readInto (d := d) hh (fun i a b => m5 i a b) m2.2 (fun zf c4 f4 p0 p1 c6 e6 => ?_) (fun zf c4 f4 s4 c6 e6 => ?_)⟩
  · have k6 := keep c6 (fun k a b e j => by rw [e6, up2_ne1 a]; exact f4 k b e j) (fun j a => by rw [e6, up2_ne2 a]; exact f4 0 (by decide) (by omega) j) (by rw [e6, up2_self])
    exact ⟨⟨by omega, by omega⟩, fun y => absurd y (by omega), fun _ => h1 z zf c6 k6.1 k6.2⟩
  · have f6 : ∀ k, k ≠ 0 → ∀ j, c6 k j = c4 k j := fun k a j => by rw [e6]; exact up2_ne1 a
    have k6 := keep c6 (fun k a b e j => by rw [f6 k a]; exact f4 k b e j) (fun j a => by rw [e6, up2_ne2 a]; exact f4 0 (by decide) (by omega) j) (by rw [e6, up2_self])
    refine ⟨⟨by decide, by decide⟩, fun _ => ?_, fun y => absurd (by decide) y⟩
    obtain ⟨D1, D2, D3, D4, D5, D6⟩ := k6.2
    have hne : ∀ i, i < X 0 2 → ∀ k F, hsH H (X 0 2) (pH (X 1) (X 0 1) 10 0).2 i k F = H i k F := fun i a k F => by unfold hsH; rw [if_neg (by omega)]
    have hnew : HR (hsH H (X 0 2) (pH (X 1) (X 0 1) 10 0).2) c6 (X 0 2) := by
      obtain ⟨u1, u2, u3, u4, -⟩ := s4
      have ce : ∀ k, hou (X 0 2) ≤ k → k ≤ hou (X 0 2) + 3 → ∀ j, c6 k j = c4 k j := fun k a b j => f6 k (by rw [eh] at a; omega) j
      refine HR_congr (c := c4) ⟨by rw [eh]; exact u1, fun F => ?_⟩ ce
      rw [eh]
      refine ⟨?_, ?_, ?_⟩
      · rw [u2 F]; unfold hsH; rw [if_pos rfl, if_pos rfl]
      · rw [u3]; unfold hsH; rw [if_pos rfl, if_neg (by decide), if_pos rfl]
      · rw [u4]; unfold hsH; rw [if_pos rfl, if_neg (by decide), if_neg (by decide)]
    have R6 : RT (hsH H (X 0 2) (pH (X 1) (X 0 1) 10 0).2) c6 24 N := RT_H D1.1 (HR_H D1.1.2.2.2.1 (hne _ n13))
    rw [← eh]
    refine g_hold (d := d + 17) t24 R6 ⟨by omega, x6.2⟩ hnew (fun c9 f9 e9 R9 c11 e11 => ?_)
    have f9' : ∀ k, k ≠ 24 → k ≠ 33 → k ≠ 34 → ∀ j, c9 k j = c6 k j := fun k a b e j => f9 k a (by omega) (by omega) j
    have e7 : c9 0 7 = X 0 2 := by rw [f9' 0 (by decide) (by decide) (by decide)]; have := D6.2.2.1.1; rw [x0_k (Or.inr (by decide))] at this; exact this
    rw [e7] at e11
    rw [show c11 0 7 = X 0 2 + 1 from by rw [e11, up2_self], show X 0 2 + 1 - 1 = X 0 2 by omega]
    have f11 : ∀ k j, ¬ (k = 0 ∧ j = 7) → c11 k j = c9 k j := fun k j a => by rw [e11]; unfold up2; rw [if_neg a]
    have fA : ∀ k j, ¬ (k = 0 ∧ j = 7) → k ≠ 24 → k ≠ 33 → k ≠ 34 → c11 k j = c6 k j := fun k j a b e g => by rw [f11 k j a]; exact f9' k b e g j
    have x2 : ∀ k j, ¬ (k = 0 ∧ (j = 1 ∨ j = 2)) → x0X (x0X X 1 0) 2 (X 0 2 + 1) k j = X k j := fun k j a => by rw [x0_k (by omega), x0_k (by omega)]
    have x22 : x0X (x0X X 1 0) 2 (X 0 2 + 1) 0 2 = X 0 2 + 1 := x0_s
    have x21 : x0X (x0X X 1 0) 2 (X 0 2 + 1) 0 1 = 0 := by rw [x0_k (Or.inr (by decide))]; exact x0_s
    have hn13 : hoG N (X 0 2) 0 13 = X 0 2 := by simp [hoG]
    have hnn : ∀ k j, ¬ (k = 0 ∧ j = 13) → hoG N (X 0 2) k j = N k j := fun k j a => by unfold hoG; rw [if_neg a]
    have hous : ∀ i, -1 ≤ i → i < X 0 2 + 1 → HR (hsH H (X 0 2) (pH (X 1) (X 0 1) 10 0).2) c11 i := fun i a b => by
      have base : HR (hsH H (X 0 2) (pH (X 1) (X 0 1) 10 0).2) c6 i := by
        by_cases y : i = X 0 2
        · rw [y]; exact hnew
        · exact HR_H (D4 i a (by rw [x0_k (Or.inr (by decide))]; omega)) (hne i (by omega))
      refine HR_congr base (fun k k1 k2 j => ?_)
      have hi := hou_is (i := i) ⟨a, by omega⟩
      have := hou_in hi k1 k2
      exact fA k j (by omega) (by omega) (by omega) (by omega)
    refine h2 z zf c11 (fun k a j => ?_) ⟨⟨?_, ?_, ?_, ?_, ?_⟩, ?_, ⟨?_, hI.2⟩, fun i a b => hous i a (by rw [x22] at b; exact b), ⟨by rw [hn13, x22]; omega, by rw [x22]; omega⟩, ?_, ?_, ?_, ?_, ?_, ?_, ?_⟩
    · rw [fA k j (by omega) (by omega) (by omega) (by omega)]; exact k6.1 k a j
    · exact RT_tab R9 (fun k a b j => f11 k j (by omega)) (fun k a b j => by
        rw [hn13] at a b
        rw [eh] at a
        exact f11 k j (by omega))
    · refine ZB_congr (c := c9) ?_ (fun k a b j => f11 k j (by omega))
      refine ZB_by D1.2.1 e9 (fun j => Or.inl (f9' _ (by decide) (by decide) (by decide) j)) (fun p _ _ => ⟨f9' _ (by decide) (by decide) (by decide) p, f9' _ (by decide) (by decide) (by decide) p, f9' _ (by decide) (by decide) (by decide) p⟩)
    · exact RW_congr (RW_G D1.2.2.1 (hnn 0 20 (by omega)) (fun i _ _ => ⟨hnn _ i (by omega), hnn _ i (by omega), hnn _ i (by omega)⟩)) (fun k a b j => fA k j (by omega) (by omega) (by omega) (by omega))
    · exact RW_congr (RW_G D1.2.2.2.1 (hnn 0 24 (by omega)) (fun i _ _ => ⟨hnn _ i (by omega), hnn _ i (by omega), hnn _ i (by omega)⟩)) (fun k a b j => fA k j (by omega) (by omega) (by omega) (by omega))
    · exact RW_congr (RW_G D1.2.2.2.2 (hnn 0 28 (by omega)) (fun i _ _ => ⟨hnn _ i (by omega), hnn _ i (by omega), hnn _ i (by omega)⟩)) (fun k a b j => fA k j (by omega) (by omega) (by omega) (by omega))
    · refine EV_H (EV_congr D2 (fun k a b j => fA k j (by omega) (by omega) (by omega) (by omega)) (fun k a b j => ?_)) (hne _ i13)
      have := hou_in (EV_hou D2) a b
      exact fA k j (by omega) (by omega) (by omega) (by omega)
    · have := INV_tab (G' := hoG N (X 0 2)) hI.1 (fun k a j => hnn k j (by omega)) (fun j a => hnn 0 j (by omega)) (by rw [hnn 0 10 (by omega)]; exact Int.le_refl _) (by rw [hnn 0 12 (by omega)]; exact hI.1.1)
      exact this
    · rw [fA 0 2 (by omega) (by decide) (by decide) (by decide), x2 0 0 (by omega)]
      have := D6.1; rw [x0_k (Or.inr (by decide))] at this; exact this
    · rw [fA 0 5 (by omega) (by decide) (by decide) (by decide), x21]
      have := D6.2.1; rw [x0_s] at this; exact this
    · rw [x22, e11, up2_self]; exact ⟨rfl, by omega, by omega⟩
    · rw [fA 4 1 (by omega) (by decide) (by decide) (by decide), x2 0 3 (by omega)]
      have := D6.2.2.2.1; rw [x0_k (Or.inr (by decide))] at this; exact this
    · intro i a b; rw [x21] at b; omega
    · intro i a b e
      rw [x2 0 3 (by omega)] at e
      rw [fA 5 i (by omega) (by decide) (by decide) (by decide), x2 2 i (by omega)]
      have := D6.2.2.2.2.2.1 i a b (by rw [x0_k (Or.inr (by decide))]; exact e)
      rw [x0_k (Or.inl (by decide))] at this; exact this
    · intro t a b
      have := D6.2.2.2.2.2.2 t a b
      rw [x0_k (Or.inl (by decide)), x0_k (Or.inl (by decide))] at this
      rw [fA _ 1 (by omega) (by omega) (by omega) (by omega), fA _ 2 (by omega) (by omega) (by omega) (by omega), x2 3 t (by omega), x2 4 t (by omega)]
      refine ⟨this.1, this.2.1, fun i a b => ?_⟩
      have h3 := this.2.2 i a b
      rw [x0_k (Or.inl (by omega))] at h3
      rw [fA _ i (by omega) (by omega) (by omega) (by omega), x2 _ i (by omega)]; exact h3
