/-! HOUSES read by the developers' reader: factors -/
def rdF (c c' : ct) (h : Int) : Prop := (∀ k, k ≠ 3 → (k < h ∨ h + 3 < k) → ∀ j, c' k j = c k j) ∧ ∀ j, j ≠ 3 → j ≠ 4 → c' 3 j = c 3 j
def AYH (c : ct) (h : Int) : Prop := (c h 7 = 0 ∨ c h 7 = 1) ∧ (c h 7 = 0 → ∀ j, 0 ≤ j → j < c h 1 → c (h + 1) j < 327680)
def TKR (c c' : ct) (h : Int) (l : List Int) : Prop := (∀ k, k ≠ 3 → k ≠ h → k ≠ h + 1 → ∀ j, c' k j = c k j) ∧ (∀ j, j ≠ 3 → j ≠ 4 → c' 3 j = c 3 j) ∧ (∀ j, j ≠ 1 → j ≠ 7 → c' h j = c h j) ∧ c' h 1 = c h 1 + l.length ∧ (∀ j, j < c h 1 → c' (h + 1) j = c (h + 1) j) ∧ lsAt (c' (h + 1)) (c h 1) l ∧ AYH c' h
theorem hou_ge {h : Int} (hh : isHou h) : 7 ≤ h := by unfold isHou at hh; omega
theorem rdF.trans {c c1 c2 : ct} {h : Int} (h1 : rdF c c1 h) (h2 : rdF c1 c2 h) : rdF c c2 h := ⟨fun k a b j => (h2.1 k a b j).trans (h1.1 k a b j), fun j a b => (h2.2 j a b).trans (h1.2 j a b)⟩
theorem TKR.F {c c' : ct} {h : Int} {l : List Int} (t : TKR c c' h l) : rdF c c' h := ⟨fun k a b j => t.1 k a (by omega) (by omega) j, t.2.1⟩
theorem rdO.F {c c' : ct} {h : Int} (o : rdO c c') : rdF c c' h := ⟨fun k a _ j => o.1 k a j, o.2⟩
theorem RD_F {c c' : ct} {h : Int} {T : Int → Int} {L : Int} (hR : RD c h T L) (ho : rdF c c' h) : RD c' h T L := by
  obtain ⟨h1, h2, h3, h4⟩ := hR
  have := hou_ge h1.2
  exact ⟨by rw [ho.2 0 (by decide) (by decide)]; exact h1, by rw [ho.2 1 (by decide) (by decide)]; exact h2, by rw [ho.2 2 (by decide) (by decide)]; exact h3, fun i a b => by rw [ho.1 1 (by decide) (by omega)]; exact h4 i a b⟩
theorem TKR.trans {c c1 c2 : ct} {h : Int} {l r : List Int} (t1 : TKR c c1 h l) (t2 : TKR c1 c2 h r) : TKR c c2 h (l ++ r) := by
  obtain ⟨a1, a2, a3, a4, a5, a6, a7⟩ := t1
  obtain ⟨b1, b2, b3, b4, b5, b6, b7⟩ := t2
  refine ⟨fun k x y z j => (b1 k x y z j).trans (a1 k x y z j), fun j x y => (b2 j x y).trans (a2 j x y), fun j x y => (b3 j x y).trans (a3 j x y), by rw [b4, a4, List.length_append]; omega, fun j x => by rw [b5 j (by omega)]; exact a5 j x, lsAt_app _ _ _ (lsAt_congr _ _ (fun j x y => b5 j (by omega)) a6) (by rw [← a4]; exact b6), b7⟩
theorem rdO_TK {c c' : ct} {h : Int} (o : rdO c c') (hh : isHou h) (hA : AYH c h) : TKR c c' h [] := by
  have := hou_ge hh
  have e1 : ∀ j, c' h j = c h j := o.1 h (by omega)
  have e2 : ∀ j, c' (h + 1) j = c (h + 1) j := o.1 (h + 1) (by omega)
  refine ⟨fun k a _ _ j => o.1 k a j, o.2, fun j _ _ => e1 j, by rw [e1]; simp, fun j _ => e2 j, trivial, ?_⟩
  unfold AYH at hA ⊢
  simp only [e1, e2]
  exact hA
theorem k_stepT {K : SK} {d : Nat} {c : ct} {Q : ct → Prop} {h x : Int} (hh : isHou h) (hA : AYH c h) (hn : 0 ≤ c h 1 ∧ c h 1 < 100) (hx : c h 7 = 0 → x < 327680) (hq : ∀ c', TKR c c' h [x] → (∀ j, c' 3 j = c 3 j) → Q c') : CV K (d + 1) mX2_addStep [(2, h), (0, x)] c Q := by
  have h7 := hou_ge hh
  refine k_addStep hh hn (fun c' f1 f2 f3 f4 => ?_)
  refine hq c' ⟨fun k a b e j => f1 k b e j, fun j _ _ => f1 3 (by omega) (by omega) j, fun j a _ => f2 j a, by rw [f3]; rfl, fun j a => by rw [f4, if_neg (by omega)], ⟨by rw [f4, if_pos rfl], trivial⟩, ?_, ?_⟩ (fun j => f1 3 (by omega) (by omega) j)
  · rw [f2 7 (by decide)]; exact hA.1
  · intro e j a b
    rw [f2 7 (by decide)] at e
    rw [f3] at b
    rw [f4]
    split
    · exact hx e
    · exact hA.2 e j a (by omega)
theorem k_testT {K : SK} {d : Nat} {c : ct} {Q : ct → Prop} {h f s n : Int} (hh : isHou h) (hA : AYH c h) (hn : 0 ≤ c h 1 ∧ c h 1 < 100) (hf : 0 ≤ f ∧ f < 6) (hs : 0 ≤ s ∧ s < 3) (hk : 0 ≤ n ∧ n < 100) (hq : ∀ c', TKR c c' h [f * 65536 + s * 256 + n] → (∀ j, c' 3 j = c 3 j) → Q c') : CV K (d + 2) mX2_addTest [(2, h), (0, f), (0, s), (0, n)] c Q := by
  have h7 := hou_ge hh
  have tm := tok_mk f.toNat (by omega) s.toNat (by omega) n.toNat (by omega)
  rw [show ((f.toNat : Nat) : Int) = f by omega, show ((s.toNat : Nat) : Int) = s by omega, show ((n.toNat : Nat) : Int) = n by omega] at tm
  have go : ∀ c3 v, c3 = up2 c h 7 v → (v = 0 ∨ v = 1) → (v = 0 → c h 7 = 0 ∧ f ≠ 5) → CV K (d + 1) mX2_addStep [(2, h), (0, f * 65536 + s * 256 + n)] c3 Q := fun c3 v e hv hv0 => by
    have e1 : ∀ j, j ≠ 7 → c3 h j = c h j := fun j a => by rw [e]; exact up2_ne2 a
    have e2 : ∀ k, k ≠ h → ∀ j, c3 k j = c k j := fun k a j => by rw [e]; exact up2_ne1 a
    have e7 : c3 h 7 = v := by rw [e]; exact up2_self
    refine k_stepT hh ⟨by rw [e7]; exact hv, fun y j a b => ?_⟩ (by rw [e1 1 (by decide)]; exact hn) (fun y => ?_) (fun c' t p => ?_)
    · rw [e1 1 (by decide)] at b
      rw [e2 _ (by omega)]
      exact hA.2 (hv0 (by rw [← e7]; exact y)).1 j a b
    · have := (hv0 (by rw [← e7]; exact y)).2
      omega
    · obtain ⟨a1, a2, a3, a4, a5, a6, a7⟩ := t
      refine hq c' ⟨fun k x y z j => by rw [a1 k x y z j]; exact e2 k y j, fun j x y => by rw [a2 j x y]; exact e2 3 (by omega) j, fun j x y => by rw [a3 j x y]; exact e1 j y, by rw [a4, e1 1 (by decide)], fun j x => by rw [a5 j (by rw [e1 1 (by decide)]; exact x)]; exact e2 _ (by omega) j, by rw [e1 1 (by decide)] at a6; exact a6, a7⟩ (fun j => by rw [p j]; exact e2 3 (by omega) j)
  refine e_X2_addTest h hh f s n (s_X2_addTest_0 h hh f s n ?_)
  rw [tm]
  have ic : ir (c h 7) := ir_01 hA.1
  exact ⟨fun z => ⟨fun z5 c3 e3 => go c3 1 e3 (Or.inr rfl) (fun y => absurd y (by decide)), fun z5 => ⟨⟨by omega, by omega⟩, fun c3 e3 => go c3 0 e3 (Or.inl rfl) (fun _ => ⟨z, z5⟩)⟩⟩, fun z => ⟨ic, fun c3 e3 => go c3 1 e3 (Or.inr rfl) (fun y => absurd y (by decide))⟩⟩
/-- a factor's reading is as told -/
def FC (K : SK) (h : Int) (T : Int → Int) (L : Int) (e : Nat) (nst : Int) (F : Int → pr3) : Prop := ∀ (c : ct) (Q : ct → Int → Prop), RD c h T L → AYH c h → (0 ≤ c 3 3 ∧ c 3 3 ≤ L) → (0 ≤ c h 1 ∧ c h 1 ≤ c 3 3) → ((F (c 3 3)).1 = 0 → ∀ c', rdF c c' h → c' 3 3 = (F (c 3 3)).2.1 → Q c' 0) → ((F (c 3 3)).1 ≠ 0 → ∀ c', TKR c c' h (F (c 3 3)).2.2 → c' 3 3 = (F (c 3 3)).2.1 → Q c' 1) → CI K e mX4_isFactor [(2, 3), (0, nst)] c Q
def EC (K : SK) (h : Int) (T : Int → Int) (L : Int) (e : Nat) (nst : Int) (F : Int → pr3) : Prop := ∀ (c : ct) (Q : ct → Int → Prop), RD c h T L → AYH c h → (0 ≤ c 3 3 ∧ c 3 3 ≤ L) → (0 ≤ c h 1 ∧ c h 1 ≤ c 3 3) → ((pE T L F 100 (c 3 3) 0 0).1 = 0 → ∀ c', rdF c c' h → c' 3 3 = (pE T L F 100 (c 3 3) 0 0).2.1 → Q c' 0) → ((pE T L F 100 (c 3 3) 0 0).1 ≠ 0 → ∀ c', TKR c c' h (pE T L F 100 (c 3 3) 0 0).2.2 → c' 3 3 = (pE T L F 100 (c 3 3) 0 0).2.1 → Q c' 1) → CI K e mX4_isEither [(2, 3), (0, nst)] c Q
theorem k_either {K : SK} {h : Int} {T : Int → Int} {L : Int} {e : Nat} {nst : Int} {F : Int → pr3} (hF : FC K h T L (e + 2) nst F) (hk : ∀ a, a ≤ L → okP L a 0 (F a)) : EC K h T L (e + 3) nst F := by
  have loop : ∀ (n : Nat) (a4 x o : Int) (c : ct) (Q : ct → Int → Prop), a4 = 100 - n → 0 ≤ a4 → (x = 0 ∨ x = 1) → (o = 0 ∨ o = 1) → RD c h T L → AYH c h → (0 ≤ c 3 3 ∧ c 3 3 ≤ L) → (0 ≤ c h 1 ∧ c h 1 + x + o ≤ c 3 3) → ((pE T L F n (c 3 3) x o).1 = 0 → ∀ c', rdF c c' h → c' 3 3 = (pE T L F n (c 3 3) x o).2.1 → Q c' 0) → ((pE T L F n (c 3 3) x o).1 ≠ 0 → ∀ c', TKR c c' h (pE T L F n (c 3 3) x o).2.2 → c' 3 3 = (pE T L F n (c 3 3) x o).2.1 → Q c' 1) → WI K (e + 3) mX4_isEither 7 [(2, 3), (0, nst), (0, x), (0, o), (0, a4)] [] c Q := by
    intro n
    induction n with
    | zero =>
      intro a4 x o c Q ha a0 hx ho hR hA hp hc h0 h1
      exact s_X4_isEither_7 nst x o a4 ⟨⟨by omega, by omega⟩, fun _ => h0 rfl c ⟨fun _ _ _ _ => rfl, fun _ _ _ => rfl⟩ rfl, fun z => absurd (by omega) z⟩
    | succ n ih =>
      intro a4 x o c Q ha a0 hx ho hR hA hp hc h0 h1
      have hh := hR.1.2
      have l100 := hR.2.2.1.2.2
      obtain ⟨⟨f1, f2⟩, f3, f4⟩ := hk (c 3 3) hp.2
      rw [pE] at h0 h1
      refine s_X4_isEither_7 nst x o a4 ⟨⟨by omega, by omega⟩, fun z => absurd z (by omega), fun _ => hF c _ hR hA hp ⟨hc.1, by omega⟩ (fun z c' r' p' => bz ?_) (fun z c3 t3 p3 => bo ?_)⟩
      · rw [if_pos z] at h0
        exact h0 rfl c' r' p'
      · rw [if_neg z] at h0 h1
        obtain ⟨f5, f6⟩ := f4 z
        have at37 : ∀ c8, TKR c c8 h ((F (c 3 3)).2.2 ++ (if x = 0 then [] else [-2])) → c8 3 3 = (F (c 3 3)).2.1 → WI K (e + 3) mX4_isEither 37 [(2, 3), (0, nst), (9, 0), (0, o), (0, a4)] [] c8 Q := fun c8 t8 p8 => by
          have R8 := RD_F hR t8.F
          have A8 := t8.2.2.2.2.2.2
          have n8 := t8.2.2.2.1
          rw [List.length_append] at n8
          have lx := x01_len (y := -2) hx
          have q8 : c8 h 1 + o ≤ (F (c 3 3)).2.1 := by omega
          refine s_X4_isEither_37 nst o a4 (k_isSign (d := e) R8 (by omega) ⟨by decide, by decide⟩ (fun z2 => bz ?_) (fun c1 z2 r1 p1 _ => bo ?_))
          · rw [p8] at z2
            rw [if_neg z2] at h0 h1
            have sign : ∀ c9, TKR c c9 h (((F (c 3 3)).2.2 ++ (if x = 0 then [] else [-2])) ++ (if o = 0 then [] else [-3])) → c9 3 3 = (F (c 3 3)).2.1 → CI K (e + 2) mX4_isSign [(2, 3), (0, 124)] c9 (fun c5 r6 => (r6 = 0 → Q c5 1) ∧ (¬ (r6 = 0) → ir r6 ∧ WI K (e + 3) mX4_isEither 7 [(2, 3), (0, nst), (0, 0), (0, r6), (0, a4 + 1)] [] c5 Q)) := fun c9 t9 p9 => by
              have R9 := RD_F hR t9.F
              have A9 := t9.2.2.2.2.2.2
              have n9 := t9.2.2.2.1
              rw [List.length_append, List.length_append] at n9
              have lo := x01_len (y := -3) ho
              refine k_isSign (d := e) R9 (by omega) ⟨by decide, by decide⟩ (fun z3 => bz ?_) (fun c1 z3 r1 p1 _ => bo ?_)
              · rw [p9] at z3
                rw [if_neg z3] at h1
                exact h1 (show (1 : Int) ≠ 0 by decide) c9 t9 p9
              · rw [p9] at z3
                rw [if_pos z3] at h0 h1
                have l3 := nx_lt (T := T) (L := L) (a := (F (c 3 3)).2.1) (by omega)
                have tO := rdO_TK r1 hh A9
                have tA := t9.trans tO
                rw [List.append_nil] at tA
                have e33 : c1 3 3 = (F (c 3 3)).2.1 + 1 := by rw [p1, p9]
                refine ih (a4 + 1) 0 1 c1 Q (by omega) (by omega) (Or.inl rfl) (Or.inr rfl) (RD_F hR tA.F) tA.2.2.2.2.2.2 (by omega) (by rw [tO.2.2.2.1]; simp; omega) ?_ ?_
                · rw [e33]; exact fun y c' r' p' => h0 y c' (tA.F.trans r') p'
                · rw [e33]; exact fun y c' r' p' => h1 y c' (tA.trans r') p'
            refine ⟨fun zo => sign c8 (by rw [if_pos zo, List.append_nil]; exact t8) p8, fun zo => ⟨ir_01 ho, by rw [R8.1.1]; exact hh, ?_⟩⟩
            rw [R8.1.1]
            refine k_stepT (d := e + 1) hh A8 (by omega) (fun _ => by decide) (fun c9 t9 p9 => sign c9 (by rw [if_neg zo]; exact t8.trans t9) (by rw [p9]; exact p8))
          · rw [p8] at z2
            rw [if_pos z2] at h0 h1
            have l3 := nx_lt (T := T) (L := L) (a := (F (c 3 3)).2.1) (by omega)
            have tO := rdO_TK r1 hh A8
            have tA := t8.trans tO
            rw [List.append_nil] at tA
            have e33 : c1 3 3 = (F (c 3 3)).2.1 + 1 := by rw [p1, p8]
            refine ih (a4 + 1) 1 o c1 Q (by omega) (by omega) (Or.inr rfl) ho (RD_F hR tA.F) tA.2.2.2.2.2.2 (by omega) (by rw [tO.2.2.2.1]; simp; omega) ?_ ?_
            · rw [e33]; exact fun y c' r' p' => h0 y c' (tA.F.trans r') p'
            · rw [e33]; exact fun y c' r' p' => h1 y c' (tA.trans r') p'
        have R3 := RD_F hR t3.F
        have n3 := t3.2.2.2.1
        refine ⟨fun zx => at37 c3 (by rw [if_pos zx, List.append_nil]; exact t3) p3, fun zx => ⟨ir_01 hx, by rw [R3.1.1]; exact hh, ?_⟩⟩
        rw [R3.1.1]
        refine k_stepT (d := e + 1) hh t3.2.2.2.2.2.2 (by omega) (fun _ => by decide) (fun c9 t9 p9 => at37 c9 (by rw [if_neg zx]; exact t3.trans t9) (by rw [p9]; exact p3))
  intro c Q hR hA hp hc h0 h1
  exact e_X4_isEither nst (s_X4_isEither_0 nst (loop 100 0 0 0 c Q (by decide) (by decide) (Or.inl rfl) (Or.inl rfl) hR hA hp (by omega) h0 h1))
/-- a test's reading -/
theorem k_test {K : SK} {d : Nat} {h : Int} {T : Int → Int} {L : Int} {nst : Int} {c : ct} {Q : ct → Int → Prop} (hR : RD c h T L) (hA : AYH c h) (hp : 0 ≤ c 3 3 ∧ c 3 3 ≤ L) (hc : 0 ≤ c h 1 ∧ c h 1 ≤ c 3 3) (n1 : ¬ nx T L (c 3 3) = 40) (n2 : ¬ nx T L (c 3 3) = 33) (h0 : (pT T L (c 3 3)).1 = 0 → ∀ c', rdF c c' h → c' 3 3 = (pT T L (c 3 3)).2.1 → Q c' 0) (h1 : (pT T L (c 3 3)).1 ≠ 0 → ∀ c', TKR c c' h (pT T L (c 3 3)).2.2 → c' 3 3 = (pT T L (c 3 3)).2.1 → Q c' 1) : CI K (d + 3) mX4_isFactor [(2, 3), (0, nst)] c Q := by
  have hh := hR.1.2
  have l100 := hR.2.2.1.2.2
  have hn := nx_r hR hp.1
  unfold pT at h0 h1
  have rf : rdF c c h := ⟨fun _ _ _ _ => rfl, fun _ _ _ => rfl⟩
  have fr := fc_r (nx T L (c 3 3))
  refine e_X4_isFactor nst (s_X4_isFactor_0 nst (k_next (d := d + 1) hR (by omega) ⟨fun z => absurd z n1, fun _ => ⟨⟨by omega, by omega⟩, fun z => absurd z n2, fun _ => ⟨⟨by omega, by omega⟩, k_factOf (d := d + 1) ⟨by omega, by omega⟩ ⟨⟨by omega, by omega⟩, fun z1 c9 h9 => ?_, fun z1 => ?_⟩⟩⟩⟩))
  · rw [if_neg (by omega)] at h0 h1
    have l1 := fc_lt (T := T) (L := L) (a := c 3 3) (by omega)
    have o9 : rdO c c9 := ⟨fun k a j => by rw [h9]; exact up2_ne1 a, fun j a b => by rw [h9]; exact up2_ne2 a⟩
    have e9 : c9 3 3 = c 3 3 + 1 := by rw [h9]; exact up2_self
    clear h9
    have R9 := RD_o hR o9
    have hn9 := nx_r R9 (a := c9 3 3) (by omega)
    have cr := cm_r (nx T L (c9 3 3))
    refine k_next (d := d + 1) R9 (by omega) (k_compareOf (d := d + 1) ⟨by omega, by omega⟩ ⟨⟨by omega, by omega⟩, fun z2 c16 h16 => ?_, fun z2 => ?_⟩)
    · rw [e9] at z2
      rw [if_neg (by omega)] at h0 h1
      have l2 := cm_lt (T := T) (L := L) (a := c 3 3 + 1) (by omega)
      have o16 : rdO c9 c16 := ⟨fun k a j => by rw [h16]; exact up2_ne1 a, fun j a b => by rw [h16]; exact up2_ne2 a⟩
      have e16 : c16 3 3 = c 3 3 + 2 := by rw [h16, up2_self]; omega
      clear h16
      have o2 := o9.trans o16
      have R16 := RD_o hR o2
      refine k_isNumber (d := d) R16 (by omega) (fun z3 => bz ?_) (fun c17 z3 o17 p17 v17 => bo ?_)
      · rw [e16] at z3
        rw [if_pos z3] at h0
        exact h0 rfl c16 o2.F e16
      · rw [e16] at z3 p17 v17
        rw [if_neg z3] at h1
        have nr := nu_r z3
        have o3 := o2.trans o17
        have R17 := RD_o hR o3
        have t17 := rdO_TK o3 hh hA
        have n17 := t17.2.2.2.1
        simp at n17
        rw [R17.1.1]
        refine ⟨hh, ?_⟩
        rw [v17, e9]
        rw [e9] at cr
        refine k_testT (d := d) hh t17.2.2.2.2.2.2 (by omega) ⟨z1, fr.2⟩ ⟨z2, cr.2⟩ ⟨nr.1.1, by omega⟩ (fun c' t' p' => ?_)
        have tt := t17.trans t'
        rw [List.nil_append] at tt
        exact h1 (show (1 : Int) ≠ 0 by decide) c' tt (by rw [p', p17])
    · rw [e9] at z2
      rw [if_pos (by omega)] at h0
      exact h0 rfl c9 o9.F e9
  · rw [if_pos (by omega)] at h0
    exact h0 rfl c rf rfl
theorem k_factor {K : SK} {h : Int} {T : Int → Int} {L : Int} : ∀ (k d : Nat), k ≤ 4 → FC K h T L (d + 3 * k + 6) (4 - (k : Int)) (pF T L k) := by
  intro k
  induction k with
  | zero =>
    intro d _ c Q hR hA hp hc h0 h1
    have hn := nx_r hR hp.1
    rw [pF] at h0 h1
    by_cases z : nx T L (c 3 3) = 40 ∨ nx T L (c 3 3) = 33
    · rw [if_pos z] at h0
      have f17 : WI K (d + 6) mX4_isFactor 17 [(2, 3), (0, 4), (0, nx T L (c 3 3)), (9, 0), (9, 0)] [] c Q := s_X4_isFactor_17 4 _ ⟨⟨by decide, by decide⟩, fun _ => h0 rfl c ⟨fun _ _ _ _ => rfl, fun _ _ _ => rfl⟩ rfl, fun y => absurd (by decide) y⟩
      exact e_X4_isFactor 4 (s_X4_isFactor_0 4 (k_next (d := d + 4) hR (by have := hR.2.2.1.2.2; omega) ⟨fun _ => f17, fun y => ⟨⟨by omega, by omega⟩, fun _ => f17, fun y2 => absurd z (fun q => q.elim y y2)⟩⟩))
    · rw [if_neg z] at h0 h1
      exact k_test (d := d + 3) hR hA hp hc (fun q => z (Or.inl q)) (fun q => z (Or.inr q)) h0 h1
  | succ k ih =>
    intro d hk4 c Q hR hA hp hc h0 h1
    have hh := hR.1.2
    have hn := nx_r hR hp.1
    have l100 := hR.2.2.1.2.2
    have eq : d + 3 * (k + 1) + 6 = (d + 3 * k) + 9 := by omega
    rw [eq]
    have en : (4 : Int) - ((k + 1 : Nat) : Int) + 1 = 4 - (k : Int) := by omega
    have hF := ih d (by omega)
    have hE := k_either (e := d + 3 * k + 4) hF (pF_ok k)
    rw [pF] at h0 h1
    -- what stands behind a sign
    have nest : ∀ s, (s = 40 ∨ s = 33) → nx T L (c 3 3) = s → WI K (d + 3 * k + 9) mX4_isFactor 17 [(2, 3), (0, 4 - ((k + 1 : Nat) : Int)), (0, s), (9, 0), (9, 0)] [] c Q := fun s hs es => by
      have l1 := nx_lt (T := T) (L := L) (a := c 3 3) (by omega)
      refine s_X4_isFactor_17 _ s ⟨⟨by omega, by omega⟩, fun y => absurd y (by omega), fun _ => ?_⟩
      rw [en]
      refine e_X4_isNest s _ (s_X4_isNest_0 s _ (fun c1 e1 => ?_))
      have o1 : rdO c c1 := ⟨fun k a j => by rw [e1]; exact up2_ne1 a, fun j a b => by rw [e1]; exact up2_ne2 a⟩
      have p1 : c1 3 3 = c 3 3 + 1 := by rw [e1]; exact up2_self
      clear e1
      have R1 := RD_o hR o1
      have t1 := rdO_TK o1 hh hA
      have n1 := t1.2.2.2.1
      simp at n1
      refine ⟨fun z => ?_, fun z => ⟨by rcases hs with e | e <;> rw [e] <;> exact ⟨by decide, by decide⟩, ?_⟩⟩
      · rw [es, if_pos z] at h0 h1
        refine hE c1 _ R1 t1.2.2.2.2.2.2 (by omega) (by omega) ?_ ?_
        · rw [p1]
          intro y c' r' p'
          rw [if_pos y] at h0
          exact bz (bz (h0 rfl c' (o1.F.trans r') p'))
        · rw [p1]
          intro y c' t' p'
          rw [if_neg y] at h0 h1
          have tt := t1.trans t'
          rw [List.nil_append] at tt
          have okE := pE_ok (T := T) (L := L) (F := pF T L k) (pF_ok k) 100 (c 3 3 + 1) 0 0 (by omega) (Or.inl rfl) (Or.inl rfl)
          have oke := okE.1
          refine bo (k_isSign (d := d + 3 * k + 5) (RD_F hR tt.F) (by omega) ⟨by decide, by decide⟩ (fun y2 => bz (bz ?_)) (fun c2 y2 r2 p2 _ => bo (bo ?_)))
          · rw [p'] at y2
            rw [if_neg y2] at h0
            exact h0 rfl c' tt.F p'
          · rw [p'] at y2
            rw [if_pos y2] at h1
            have t3 := tt.trans (rdO_TK r2 hh tt.2.2.2.2.2.2)
            rw [List.append_nil] at t3
            exact h1 (show (1 : Int) ≠ 0 by decide) c2 t3 (by rw [p2, p'])
      · have s33 : s = 33 := by omega
        rw [es, if_neg z, if_pos s33] at h0 h1
        have hF2 := ih (d + 1) (by omega)
        rw [show d + 1 + 3 * k + 6 = d + 3 * k + 7 by omega] at hF2
        refine hF2 c1 _ R1 t1.2.2.2.2.2.2 (by omega) (by omega) ?_ ?_
        · rw [p1]
          intro y c' r' p'
          rw [if_pos y] at h0
          exact bz (bz (h0 rfl c' (o1.F.trans r') p'))
        · rw [p1]
          intro y c' t' p'
          rw [if_neg y] at h1
          have tt := t1.trans t'
          rw [List.nil_append] at tt
          have okF := pF_ok (T := T) (L := L) k (c 3 3 + 1) (by omega)
          have ok3 := okF.2.2 y
          have nn := tt.2.2.2.1
          have okl := okF.1
          refine bo ?_
          rw [(RD_F hR tt.F).1.1]
          refine ⟨hh, k_stepT (d := d + 3 * k + 6) hh tt.2.2.2.2.2.2 (by omega) (fun _ => by decide) (fun c2 t2 p2 => bo ?_)⟩
          exact h1 (show (1 : Int) ≠ 0 by decide) c2 (tt.trans t2) (by rw [p2, p'])
    by_cases z : nx T L (c 3 3) = 40
    · exact e_X4_isFactor _ (s_X4_isFactor_0 _ (k_next (d := d + 3 * k + 7) hR (by omega) ⟨fun y => nest _ (Or.inl z) rfl, fun y => absurd z y⟩))
    · by_cases z2 : nx T L (c 3 3) = 33
      · exact e_X4_isFactor _ (s_X4_isFactor_0 _ (k_next (d := d + 3 * k + 7) hR (by omega) ⟨fun y => absurd y z, fun y => ⟨⟨by omega, by omega⟩, fun y => nest _ (Or.inr z2) rfl, fun y2 => absurd z2 y2⟩⟩))
      · rw [if_neg z, if_neg z2] at h0 h1
        exact k_test (d := d + 3 * k + 6) hR hA hp hc z z2 h0 h1
