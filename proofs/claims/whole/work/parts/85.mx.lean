/-! HOUSES read by the reference: E -/
theorem cm_in {x : Int} (h : 60 ≤ x ∧ x ≤ 62) : cmL x = x - 60 := by
  have : x = 60 ∨ x = 61 ∨ x = 62 := by omega
  rcases this with rfl | rfl | rfl <;> rfl
theorem cm_out {x : Int} (h : ¬ (60 ≤ x ∧ x ≤ 62)) : cmL x < 0 := by unfold cmL; rw [if_neg (by omega), if_neg (by omega), if_neg (by omega)]; decide
theorem tr_test {f s n : Int} (hf : 0 ≤ f ∧ f < 6) (hs : 0 ≤ s ∧ s < 3) (hn : 0 ≤ n ∧ n ≤ 99) : trT (1000 * f + 100 * s + n) = f * 65536 + s * 256 + n := by
  unfold trT
  rw [if_neg (by omega), if_neg (by omega), if_neg (by omega)]
  have h1 : (1000 * f + 100 * s + n) / 1000 = f := by omega
  have h2 : (1000 * f + 100 * s + n) / 100 % 10 = s := by omega
  have h3 : (1000 * f + 100 * s + n) % 100 = n := by omega
  rw [h1, h2, h3]
theorem m_takesTest {c0 c : ct} {K : SK} {d : Nat} {Q : ct → Int → Prop} {x f : Int} {stk out : List Int} {T : Int → Int} {L : Int} (hM : MRD c0 T L) (h : PS c0 c x stk out) (hf : 0 ≤ f ∧ f ≤ 5) (hb0 : 100 * f ≤ c0 108 23) (hp : 0 ≤ c 108 13 ∧ c 108 13 ≤ L) (hb : c0 108 23 + out.length + stk.length ≤ 100 * f + c 108 13) (h0 : (pT T L (c 108 13)).1 = 0 → ∀ c', PS c0 c' x stk out → c' 108 13 = (pT T L (c 108 13)).2.1 → Q c' 0) (h1 : (pT T L (c 108 13)).1 ≠ 0 → ∀ c', PS c0 c' x (whS stk (out ++ (pT T L (c 108 13)).2.2)).1 (whS stk (out ++ (pT T L (c 108 13)).2.2)).2 → c' 108 13 = (pT T L (c 108 13)).2.1 → Q c' 1) : CI K (d + 4) mX9_takesTest [(2, 108)] c Q := by
  have hMc := PS_M h hM
  have l100 := hM.1.2.2
  have hn := mnx_r hMc hp.1
  have fr := fc_r (nx T L (c 108 13))
  unfold pT at h0 h1
  refine e_X9_takesTest (s_X9_takesTest_0 (m_next (d := d + 2) hMc (by omega) (m_place (d := d + 2) ⟨by omega, by omega⟩ ⟨⟨by omega, by omega⟩, fun z1 c7 e7 => ?_, fun z1 => ?_⟩)))
  · rw [if_neg (by omega)] at h0 h1
    have l1 := fc_lt (T := T) (L := L) (a := c 108 13) (by omega)
    have o7 : mO c c7 := fun k j a => by rw [e7]; unfold up2; rw [if_neg (by omega)]
    have p7 : c7 108 13 = c 108 13 + 1 := by rw [e7, up2_self]
    clear e7
    have hn7 := mnx_r (MRD_o hMc o7) (a := c7 108 13) (by omega)
    refine m_next (d := d + 2) (MRD_o hMc o7) (by omega) (m_in (d := d + 2) ⟨by omega, by omega⟩ ⟨by decide, by decide⟩ ⟨by decide, by decide⟩ (fun z2 => bz ?_) (fun z2 z2' => bo (fun c13 e13 => ?_)))
    · rw [p7] at z2
      rw [if_pos (cm_out z2)] at h0
      exact h0 rfl c7 (PS_o h o7) p7
    · rw [p7] at z2 z2'
      have cm := cm_in ⟨z2, z2'⟩
      rw [if_neg (by omega)] at h0 h1
      have l2 := cm_lt (T := T) (L := L) (a := c 108 13 + 1) (by omega)
      have o13 : mO c c13 := o7.trans (fun k j a => by rw [e13]; unfold up2; rw [if_neg (by omega)])
      have p13 : c13 108 13 = c 108 13 + 2 := by rw [e13, up2_self, p7]; omega
      clear e13
      refine m_takesNumber (d := d) (MRD_o hMc o13) (by omega) (fun z3 => bz ?_) (fun c14 z3 o14 p14 v14 => bo ?_)
      · rw [p13] at z3
        rw [if_pos z3] at h0
        exact h0 rfl c13 (PS_o h o13) p13
      · rw [p13] at z3 p14 v14
        rw [if_neg z3] at h1
        have nr := nu_r z3
        have oo := o13.trans o14
        have p' := PS_o h oo
        rw [v14, p7, show 1000 * fcL (nx T L (c 108 13)) + 100 * (nx T L (c 108 13 + 1) - 60) + nuV T L (c 108 13 + 2) = 1000 * fcL (nx T L (c 108 13)) + 100 * cmL (nx T L (c 108 13 + 1)) + nuV T L (c 108 13 + 2) by rw [cm]]
        refine m_emits (d := d + 2) p' hf hb0 (by omega) (fun c17 p17 q17 => ?_)
        rw [tr_test ⟨z1, fr.2⟩ (by omega) nr.1] at p17
        refine e_X9_whole (m_whole (d := d + 1) hf hb0 _ _ c17 p17 (by rw [List.length_append]; simp; omega) (fun c19 p19 q19 => ?_))
        exact h1 (show (1 : Int) ≠ 0 by decide) c19 p19 (by rw [q19, q17, p14])
  · rw [if_pos (by omega)] at h0
    exact h0 rfl c h rfl
theorem pil_upr {c : ct} {t k v : Int} {l : List Int} (hk : k = (l.length : Int)) (h : pil (c t) l) : pil (up2 c t k v t) (v :: l) := by
  have e : up2 c t k v t = fun j => if j = k then v else c t j := by funext j; simp [up2]
  rw [e]
  exact ⟨by show (if _ then _ else _) = _; rw [if_pos hk.symm], pil_ne (by omega) h⟩
theorem PS_push {c0 c c3 c5 c6 : ct} {x y : Int} {stk out : List Int} (h : PS c0 c x stk out) (hy : y = 38 ∨ y = 124) (e3 : c3 = up2 c 121 (c 108 24) y) (e5 : c5 = up2 c3 108 24 (c3 108 24 + 1)) (e6 : c6 = up2 c5 108 13 (c5 108 13 + 1)) : PS c0 c6 x (y :: stk) out ∧ c6 108 13 = c 108 13 + 1 := by
  obtain ⟨h1, h2, h3, h4, h5, h6, h7, h8⟩ := h
  have f : ∀ k j, ¬ (k = 108 ∧ (j = 24 ∨ j = 13)) → k ≠ 121 → c6 k j = c k j := fun k j a b => by rw [e6, e5, e3]; unfold up2; rw [if_neg (by omega), if_neg (by omega), if_neg (by omega)]
  have e24 : c6 108 24 = c 108 24 + 1 := by rw [e6, up2_ne2 (by decide), e5, up2_self, e3, up2_ne1 (by decide)]
  have e13 : c6 108 13 = c 108 13 + 1 := by rw [e6, up2_self, e5, up2_ne2 (by decide), e3, up2_ne1 (by decide)]
  have r0 : c6 120 = c 120 := funext (fun j => f 120 j (by omega) (by decide))
  have fm : mTk c6 = mTk c := by unfold mTk; rw [r0]
  have r1 : c6 121 = up2 c 121 (c 108 24) y 121 := funext (fun j => by rw [e6, up2_ne1 (by decide), e5, up2_ne1 (by decide), e3])
  refine ⟨⟨fun k j a => by rw [f k j (by omega) (by omega)]; exact h1 k j a, by rw [f 108 23 (by omega) (by decide)]; exact h2, fun j a => by rw [r0]; exact h3 j a, by rw [fm]; exact h4, by rw [e24, h5]; simp, by rw [r1]; exact pil_upr h5 h6, by rw [f 108 25 (by omega) (by decide), h7, opn, if_neg (by omega)]; omega, fun b m => ?_⟩, e13⟩
  rcases List.mem_cons.mp m with e | m
  · subst e; omega
  · exact h8 b m
theorem PS_nest {c0 c c2 c3 c5 c6 : ct} {x y : Int} {stk out : List Int} (h : PS c0 c x stk out) (hy : y = 33 ∨ y = 40) (e2 : c2 = up2 c 108 25 (c 108 25 + 1)) (e3 : c3 = up2 c2 121 (c2 108 24) y) (e5 : c5 = up2 c3 108 24 (c3 108 24 + 1)) (e6 : c6 = up2 c5 108 13 (c5 108 13 + 1)) : PS c0 c6 x (y :: stk) out ∧ c6 108 13 = c 108 13 + 1 := by
  obtain ⟨h1, h2, h3, h4, h5, h6, h7, h8⟩ := h
  have e2' : c2 108 24 = c 108 24 := by rw [e2, up2_ne2 (by decide)]
  rw [e2'] at e3
  have f : ∀ k j, ¬ (k = 108 ∧ (j = 24 ∨ j = 13 ∨ j = 25)) → k ≠ 121 → c6 k j = c k j := fun k j a b => by rw [e6, e5, e3, e2]; unfold up2; rw [if_neg (by omega), if_neg (by omega), if_neg (by omega), if_neg (by omega)]
  have e24 : c6 108 24 = c 108 24 + 1 := by rw [e6, up2_ne2 (by decide), e5, up2_self, e3, up2_ne1 (by decide), e2']
  have e25 : c6 108 25 = c 108 25 + 1 := by rw [e6, up2_ne2 (by decide), e5, up2_ne2 (by decide), e3, up2_ne1 (by decide), e2, up2_self]
  have e13 : c6 108 13 = c 108 13 + 1 := by rw [e6, up2_self, e5, up2_ne2 (by decide), e3, up2_ne1 (by decide), e2, up2_ne2 (by decide)]
  have r0 : c6 120 = c 120 := funext (fun j => f 120 j (by omega) (by decide))
  have fm : mTk c6 = mTk c := by unfold mTk; rw [r0]
  have r1 : c6 121 = up2 c 121 (c 108 24) y 121 := funext (fun j => by
    rw [e6, up2_ne1 (by decide), e5, up2_ne1 (by decide), e3]
    unfold up2
    split
    · rfl
    · rw [e2]; exact up2_ne1 (by decide))
  refine ⟨⟨fun k j a => by rw [f k j (by omega) (by omega)]; exact h1 k j a, by rw [f 108 23 (by omega) (by decide)]; exact h2, fun j a => by rw [r0]; exact h3 j a, by rw [fm]; exact h4, by rw [e24, h5]; simp, by rw [r1]; exact pil_upr h5 h6, by rw [e25, h7, opn, if_pos hy]; omega, fun b m => ?_⟩, e13⟩
  rcases List.mem_cons.mp m with e | m
  · subst e; omega
  · exact h8 b m
def pnd (x o : Int) : List Int := (if x = 0 then [] else [38]) ++ (if o = 0 then [] else [124])
def bas (b : List Int) : Prop := b = [] ∨ ∃ S, b = 40 :: S
theorem pnd_wh {x o : Int} {b out : List Int} (hx : x = 0 ∨ x = 1) (ho : o = 0 ∨ o = 1) (hb : bas b) : whS (pnd x o ++ b) out = (pnd x o ++ b, out) := by
  rcases hx with rfl | rfl <;> rcases ho with rfl | rfl <;> rcases hb with rfl | ⟨S, rfl⟩ <;> simp [pnd, whS]
theorem pnd_38 {x o : Int} {b out : List Int} (hx : x = 0 ∨ x = 1) (ho : o = 0 ∨ o = 1) (hb : bas b) : stS 38 (pnd x o ++ b) out = (pnd 0 o ++ b, out ++ (if x = 0 then [] else [-2])) := by
  rcases hx with rfl | rfl <;> rcases ho with rfl | rfl <;> rcases hb with rfl | ⟨S, rfl⟩ <;> simp [pnd, stS]
theorem pnd_124 {x o : Int} {b out : List Int} (hx : x = 0 ∨ x = 1) (ho : o = 0 ∨ o = 1) (hb : bas b) : stS 124 (pnd x o ++ b) out = (b, (out ++ (if x = 0 then [] else [-2])) ++ (if o = 0 then [] else [-3])) := by
  rcases hx with rfl | rfl <;> rcases ho with rfl | rfl <;> rcases hb with rfl | ⟨S, rfl⟩ <;> simp [pnd, stS]
theorem pnd_len {x o : Int} (hx : x = 0 ∨ x = 1) (ho : o = 0 ∨ o = 1) : ((pnd x o).length : Int) = x + o := by
  rcases hx with rfl | rfl <;> rcases ho with rfl | rfl <;> simp [pnd]
/-- what comes behind E -/
def CE (K : SK) (d : Nat) (x : Int) (c8 : ct) (b : Int) (Q : ct → Int → Prop) : Prop := ((c8 108 24) = 0 → Q c8 1) ∧ (¬ ((c8 108 24) = 0) → ir (c8 108 24) ∧ (b = 41 → ∀ c12 : ct, c12 = up2 c8 108 24 ((c8 108 24) - 1) → ∀ c13 : ct, c13 = up2 c12 108 25 ((c12 108 25) - 1) → ∀ c14 : ct, c14 = up2 c13 108 13 ((c13 108 13) + 1) → CV K d mX9_whole [(2, 108)] c14 (fun c15 => WI K (d + 1) mX9_takesE 22 [(2, 108), (0, x), (0, 0), (9, 0)] [] c15 Q)) ∧ (¬ (b = 41) → ir b ∧ Q c8 0))
/-- a factor's reading at the reference is as told -/
def MF (K : SK) (d : Nat) (c0 : ct) (x f : Int) (T : Int → Int) (L : Int) (Q : ct → Int → Prop) (nst : Int) (F : Int → pr3) : Prop := ∀ (stk out : List Int) (c : ct), PS c0 c x stk out → (0 ≤ c 108 13 ∧ c 108 13 ≤ L) → opn stk = nst → c0 108 23 + out.length + stk.length ≤ 100 * f + c 108 13 → ((F (c 108 13)).1 = 0 → ∀ c' s' o', PS c0 c' x s' o' → c' 108 13 = (F (c 108 13)).2.1 → Q c' 0) → ((F (c 108 13)).1 ≠ 0 → ∀ c', PS c0 c' x (whS stk (out ++ (F (c 108 13)).2.2)).1 (whS stk (out ++ (F (c 108 13)).2.2)).2 → c' 108 13 = (F (c 108 13)).2.1 → WI K (d + 6) mX9_takesE 22 [(2, 108), (0, x), (0, 0), (9, 0)] [] c' Q) → WI K (d + 6) mX9_takesE 22 [(2, 108), (0, x), (0, 1), (9, 0)] [] c Q
theorem m_either {c0 : ct} {K : SK} {d : Nat} {Q : ct → Int → Prop} {x f : Int} {T : Int → Int} {L : Int} {nst : Int} {F : Int → pr3} (hx : 0 ≤ x ∧ x < 60) (hM : MRD c0 T L) (hf : 0 ≤ f ∧ f ≤ 5) (hb0 : 100 * f ≤ c0 108 23) (hF : MF K d c0 x f T L Q nst F) (hk : ∀ a, a ≤ L → okP L a 0 (F a)) : ∀ (n : Nat) (u o : Int) (b out : List Int) (c : ct), (u = 0 ∨ u = 1) → (o = 0 ∨ o = 1) → bas b → opn b = nst → PS c0 c x (pnd u o ++ b) out → (0 ≤ c 108 13 ∧ c 108 13 ≤ L) → L + 1 ≤ c 108 13 + n → c0 108 23 + out.length + (pnd u o ++ b).length ≤ 100 * f + c 108 13 → ((pE T L F n (c 108 13) u o).1 = 0 → ∀ c' s' o', PS c0 c' x s' o' → c' 108 13 = (pE T L F n (c 108 13) u o).2.1 → Q c' 0) → ((pE T L F n (c 108 13) u o).1 ≠ 0 → ∀ c8, PS c0 c8 x b (out ++ (pE T L F n (c 108 13) u o).2.2) → c8 119 x = c8 108 23 → c8 108 13 = (pE T L F n (c 108 13) u o).2.1 → c0 108 23 + (out ++ (pE T L F n (c 108 13) u o).2.2).length + b.length ≤ 100 * f + c8 108 13 → CE K (d + 5) x c8 (nx T L (pE T L F n (c 108 13) u o).2.1) Q) → WI K (d + 6) mX9_takesE 22 [(2, 108), (0, x), (0, 1), (9, 0)] [] c Q := by
  have l100 := hM.1.2.2
  intro n
  induction n with
  | zero => intro u o b out c hu ho hb hn hP hp hL hbd h0 h1; omega
  | succ n ih =>
    intro u o b out c hu ho hb hn hP hp hL hbd h0 h1
    obtain ⟨⟨f1, f2⟩, f3, f4⟩ := hk (c 108 13) hp.2
    have on : opn (pnd u o ++ b) = nst := by
      rw [← hn]
      rcases hu with rfl | rfl <;> rcases ho with rfl | rfl <;> simp [pnd, opn]
    rw [pE] at h0 h1
    refine hF _ out c hP hp on hbd (fun z c' s' o' p' q' => ?_) (fun z c1 p1 q1 => ?_)
    · rw [if_pos z] at h0
      exact h0 rfl c' s' o' p' q'
    · rw [if_neg z] at h0 h1
      rw [pnd_wh hu ho hb] at p1
      dsimp only at p1
      obtain ⟨f5, f6⟩ := f4 z
      have M1 := PS_M p1 hM
      have lp := pnd_len hu ho
      rw [List.length_append] at hbd
      have bd1 : c0 108 23 + (out ++ (F (c 108 13)).2.2).length + (pnd u o ++ b).length ≤ 100 * f + (F (c 108 13)).2.1 := by
        rw [List.length_append, List.length_append]; omega
      have hn1 := mnx_r M1 (a := (F (c 108 13)).2.1) (by omega)
      have in1 : ir (nx T L (F (c 108 13)).2.1) := ⟨by omega, by omega⟩
      -- an and or an or follows
      have more : ∀ y, (y = 38 ∨ y = 124) → nx T L (F (c 108 13)).2.1 = y → (∀ c6, PS c0 c6 x (y :: (stS y (pnd u o ++ b) (out ++ (F (c 108 13)).2.2)).1) (stS y (pnd u o ++ b) (out ++ (F (c 108 13)).2.2)).2 → c6 108 13 = (F (c 108 13)).2.1 + 1 → WI K (d + 6) mX9_takesE 22 [(2, 108), (0, x), (0, 1), (9, 0)] [] c6 Q) → WI K (d + 6) mX9_takesE 122 [(2, 108), (0, x), (9, 0), (0, y)] [] c1 Q := fun y hy ey hw => by
        refine s_X9_takesE_122 x y (e_X9_settle y (m_settle (d := d + 3) hf hb0 (by rcases hy with e | e <;> rw [e] <;> exact ⟨by decide, by decide⟩) _ _ c1 p1 (by omega) (fun c2 p2 q2 => ?_)))
        have h24 := p2.2.2.2.2.1
        have sl : (((stS y (pnd u o ++ b) (out ++ (F (c 108 13)).2.2)).1.length : Nat) : Int) ≤ 100 := by
          rcases hy with e | e
          · rw [e, pnd_38 hu ho hb]
            have l0 := pnd_len (x := 0) (Or.inl rfl) ho
            rw [List.length_append] at bd1 ⊢
            rw [List.length_append] at bd1
            omega
          · rw [e, pnd_124 hu ho hb]
            rw [List.length_append] at bd1
            rw [List.length_append] at bd1
            first | omega | (simp only; omega)
        refine ⟨by omega, fun c3 e3 c5 e5 c6 e6 => ?_⟩
        obtain ⟨pp, qq⟩ := PS_push p2 hy e3 e5 e6
        exact hw c6 pp (by rw [qq, q2, q1])
      refine s_X9_takesE_22 x 0 (m_next (d := d + 4) M1 (by omega) ?_)
      rw [q1]
      refine ⟨fun _ => ⟨fun y38 => ?_, fun n38 => ⟨in1, fun y124 => ?_, fun n124 => ⟨in1, ?_⟩⟩⟩, fun y => absurd rfl y⟩
      · rw [if_pos y38] at h0 h1
        rw [y38]
        refine more 38 (Or.inl rfl) y38 (fun c6 p6 q6 => ?_)
        rw [pnd_38 hu ho hb] at p6
        dsimp only at p6
        have l3 := nx_lt (T := T) (L := L) (a := (F (c 108 13)).2.1) (by omega)
        have lx := x01_len (y := -2) hu
        have l0 := pnd_len (x := 0) (Or.inl rfl) ho
        have l1 := pnd_len (x := 1) (Or.inr rfl) ho
        have ep : (38 : Int) :: (pnd 0 o ++ b) = pnd 1 o ++ b := by simp [pnd]
        simp only [ep] at p6
        refine ih 1 o b _ c6 (Or.inr rfl) ho hb hn p6 (by omega) (by omega) (by rw [List.length_append, List.length_append, List.length_append]; omega) ?_ ?_
        · rw [q6]; exact h0
        · rw [q6]
          intro y c8 p8 q8 r8 b8
          rw [List.append_assoc, List.append_assoc, ← List.append_assoc _ _ (pE T L F n _ _ _).2.2] at p8 b8
          exact h1 y c8 p8 q8 r8 b8
      · rw [if_neg n38, if_pos y124] at h0 h1
        rw [y124]
        refine more 124 (Or.inr rfl) y124 (fun c6 p6 q6 => ?_)
        rw [pnd_124 hu ho hb] at p6
        dsimp only at p6
        have l3 := nx_lt (T := T) (L := L) (a := (F (c 108 13)).2.1) (by omega)
        have lx := x01_len (y := -2) hu
        have lo := x01_len (y := -3) ho
        have l1 := pnd_len (x := 0) (o := 1) (Or.inl rfl) (Or.inr rfl)
        have ep : (124 : Int) :: b = pnd 0 1 ++ b := by simp [pnd]
        simp only [ep] at p6
        refine ih 0 1 b _ c6 (Or.inl rfl) (Or.inr rfl) hb hn p6 (by omega) (by omega) (by rw [List.length_append, List.length_append, List.length_append, List.length_append]; omega) ?_ ?_
        · rw [q6]; exact h0
        · rw [q6]
          intro y c8 p8 q8 r8 b8
          simp only [List.append_assoc] at p8 b8 h1
          exact h1 y c8 p8 q8 r8 b8
      · rw [if_neg n38, if_neg n124] at h1
        refine e_X9_settle 124 (m_settle (d := d + 3) hf hb0 ⟨by decide, by decide⟩ _ _ c1 p1 (by omega) (fun c6 p6 q6 => ⟨hx, fun c8 e8 => ?_⟩))
        rw [pnd_124 hu ho hb] at p6
        dsimp only at p6
        have lx := x01_len (y := -2) hu
        have lo := x01_len (y := -3) ho
        have f8 : ∀ k j, ¬ (k = 119 ∧ j = x) → c8 k j = c6 k j := fun k j a => by rw [e8]; unfold up2; rw [if_neg a]
        have p8 : PS c0 c8 x b ((out ++ (F (c 108 13)).2.2 ++ (if u = 0 then [] else [-2])) ++ (if o = 0 then [] else [-3])) := by
          obtain ⟨g1, g2, g3, g4, g5, g6, g7, g8⟩ := p6
          have r0 : c8 120 = c6 120 := funext (fun j => f8 120 j (by omega))
          have r1 : c8 121 = c6 121 := funext (fun j => f8 121 j (by omega))
          have fm : mTk c8 = mTk c6 := by unfold mTk; rw [r0]
          exact ⟨fun k j a => by rw [f8 k j (by omega)]; exact g1 k j a, by rw [f8 108 23 (by omega)]; exact g2, fun j a => by rw [r0]; exact g3 j a, by rw [fm]; exact g4, by rw [f8 108 24 (by omega)]; exact g5, by rw [r1]; exact g6, by rw [f8 108 25 (by omega)]; exact g7, g8⟩
        have q8 : c8 108 13 = (F (c 108 13)).2.1 := by rw [f8 108 13 (by omega), q6, q1]
        have := h1 (show (1 : Int) ≠ 0 by decide) c8 (by simp only [List.append_assoc] at p8 ⊢; exact p8) (by rw [f8 108 23 (by omega), e8, up2_self]) q8 (by rw [q8, List.length_append, List.length_append, List.length_append]; omega)
        exact this
theorem m_test22 {c0 : ct} {K : SK} {d : Nat} {Q : ct → Int → Prop} {x f : Int} {T : Int → Int} {L : Int} {stk out : List Int} {c : ct} (hM : MRD c0 T L) (hf : 0 ≤ f ∧ f ≤ 5) (hb0 : 100 * f ≤ c0 108 23) (h : PS c0 c x stk out) (hp : 0 ≤ c 108 13 ∧ c 108 13 ≤ L) (hb : c0 108 23 + out.length + stk.length ≤ 100 * f + c 108 13) (n1 : ¬ nx T L (c 108 13) = 40) (n2 : ¬ nx T L (c 108 13) = 33) (h0 : (pT T L (c 108 13)).1 = 0 → ∀ c' s' o', PS c0 c' x s' o' → c' 108 13 = (pT T L (c 108 13)).2.1 → Q c' 0) (h1 : (pT T L (c 108 13)).1 ≠ 0 → ∀ c', PS c0 c' x (whS stk (out ++ (pT T L (c 108 13)).2.2)).1 (whS stk (out ++ (pT T L (c 108 13)).2.2)).2 → c' 108 13 = (pT T L (c 108 13)).2.1 → WI K (d + 6) mX9_takesE 22 [(2, 108), (0, x), (0, 0), (9, 0)] [] c' Q) : WI K (d + 6) mX9_takesE 22 [(2, 108), (0, x), (0, 1), (9, 0)] [] c Q := by
  have M1 := PS_M h hM
  have l100 := hM.1.2.2
  have hn1 := mnx_r M1 hp.1
  refine s_X9_takesE_22 x 1 (m_next (d := d + 4) M1 (by omega) ⟨fun y => absurd y (by decide), fun _ => ⟨ir01.2, fun y => absurd y n2, fun _ => ⟨⟨by omega, by omega⟩, fun y => absurd y n1, fun _ => ⟨⟨by omega, by omega⟩, m_takesTest (d := d + 1) hM h hf hb0 hp hb (fun z c' p' q' => bz (h0 z c' _ _ p' q')) (fun z c' p' q' => bo (h1 z c' p' q'))⟩⟩⟩⟩)
theorem m_factor {c0 : ct} {K : SK} {d : Nat} {Q : ct → Int → Prop} {x f : Int} {T : Int → Int} {L : Int} (hx : 0 ≤ x ∧ x < 60) (hM : MRD c0 T L) (hf : 0 ≤ f ∧ f ≤ 5) (hb0 : 100 * f ≤ c0 108 23) : ∀ (k : Nat), k ≤ 4 → MF K d c0 x f T L Q (4 - (k : Int)) (pF T L k) := by
  have l100 := hM.1.2.2
  -- a sign that nests
  have nest : ∀ (y : Int) (stk out : List Int) (c : ct), (y = 33 ∨ y = 40) → nx T L (c 108 13) = y → PS c0 c x stk out → (0 ≤ c 108 13 ∧ c 108 13 ≤ L) → c0 108 23 + out.length + stk.length ≤ 100 * f + c 108 13 → (opn stk = 4 → Q c 0) → (opn stk ≠ 4 → ∀ c6, PS c0 c6 x (y :: stk) out → c6 108 13 = c 108 13 + 1 → WI K (d + 6) mX9_takesE 22 [(2, 108), (0, x), (0, 1), (9, 0)] [] c6 Q) → WI K (d + 6) mX9_takesE 22 [(2, 108), (0, x), (0, 1), (9, 0)] [] c Q := by
    intro y stk out c hy ey hP hp hb h4 hw
    have M1 := PS_M hP hM
    have h24 := hP.2.2.2.2.1
    have h25 := hP.2.2.2.2.2.2.1
    have l1 := nx_lt (T := T) (L := L) (a := c 108 13) (by omega)
    have or_r : 0 ≤ opn stk ∧ opn stk ≤ stk.length := by
      have : ∀ l : List Int, 0 ≤ opn l ∧ opn l ≤ (l.length : Int) := by
        intro l
        induction l with
        | nil => exact ⟨by decide, by decide⟩
        | cons b l ih => rw [opn, List.length_cons]; split <;> omega
      exact this stk
    have at43 : WI K (d + 6) mX9_takesE 43 [(2, 108), (0, x), (0, 1), (0, y)] [] c Q := by
      refine s_X9_takesE_43 x 1 y ?_
      rw [h25]
      refine ⟨fun z => h4 z, fun z => ⟨⟨by omega, by omega⟩, fun c2 e2 => ?_⟩⟩
      rw [show c2 108 24 = c 108 24 from by rw [e2, up2_ne2 (by decide)], h24]
      refine ⟨by omega, fun c3 e3 c5 e5 c6 e6 => ?_⟩
      obtain ⟨pp, qq⟩ := PS_nest (c2 := c2) (c3 := c3) hP hy (by rw [h25]; exact e2) (by rw [show c2 108 24 = c 108 24 from by rw [e2, up2_ne2 (by decide)], h24]; exact e3) e5 e6
      exact hw z c6 pp qq
    have iy : ir y := by rcases hy with e | e <;> rw [e] <;> exact ⟨by decide, by decide⟩
    refine s_X9_takesE_22 x 1 (m_next (d := d + 4) M1 (by omega) ?_)
    rw [ey]
    exact ⟨fun z => absurd z (by decide), fun _ => ⟨ir01.2, fun _ => at43, fun z => ⟨iy, fun _ => at43, fun z2 => absurd hy (fun q => q.elim z z2)⟩⟩⟩
  intro k
  induction k with
  | zero =>
    intro _ stk out c hP hp hn hb h0 h1
    rw [pF] at h0 h1
    by_cases z : nx T L (c 108 13) = 40 ∨ nx T L (c 108 13) = 33
    · rw [if_pos z] at h0
      exact nest _ stk out c (by omega) rfl hP hp hb (fun _ => h0 rfl c stk out hP rfl) (fun q => absurd (by omega) q)
    · rw [if_neg z] at h0 h1
      exact m_test22 hM hf hb0 hP hp hb (fun q => z (Or.inl q)) (fun q => z (Or.inr q)) h0 h1
  | succ k ih =>
    intro hk4 stk out c hP hp hn hb h0 h1
    have hF := ih (by omega)
    rw [pF] at h0 h1
    by_cases z : nx T L (c 108 13) = 40
    · rw [if_pos z] at h0 h1
      have l1 := nx_lt (T := T) (L := L) (a := c 108 13) (by omega)
      refine nest 40 stk out c (Or.inr rfl) z hP hp hb (fun q => absurd q (by omega)) (fun _ c6 p6 q6 => ?_)
      have okE := pE_ok (T := T) (L := L) (F := pF T L k) (pF_ok k) 100 (c 108 13 + 1) 0 0 (by omega) (Or.inl rfl) (Or.inl rfl)
      have p6' : PS c0 c6 x (pnd 0 0 ++ (40 :: stk)) out := by simp only [pnd]; exact p6
      refine m_either hx hM hf hb0 hF (pF_ok k) 100 0 0 (40 :: stk) out c6 (Or.inl rfl) (Or.inl rfl) (Or.inr ⟨stk, rfl⟩) (by rw [opn, if_pos (Or.inr rfl), hn]; omega) p6' (by omega) (by omega) (by simp [pnd]; omega) ?_ ?_
      · rw [q6]
        intro y c' s' o' p' q'
        rw [if_pos y] at h0
        exact h0 rfl c' s' o' p' q'
      · rw [q6]
        intro y c8 p8 t8 q8 b8
        rw [if_neg y] at h0 h1
        obtain ⟨g1, g2, g3, g4, g5, g6, g7, g8⟩ := id p8
        have hn8 := mnx_r (PS_M p8 hM) (a := (pE T L (pF T L k) 100 (c 108 13 + 1) 0 0).2.1) (by have := okE.1; omega)
        simp only [List.length_cons] at g5 b8
        refine ⟨fun y2 => absurd y2 (by rw [g5]; omega), fun _ => ⟨by rw [g5]; have := okE.1; exact ⟨by omega, by omega⟩, fun y2 c12 e12 c13 e13 c14 e14 => ?_, fun y2 => ⟨⟨by omega, by omega⟩, ?_⟩⟩⟩
        · rw [if_pos y2] at h1
          have l2 := nx_lt (T := T) (L := L) (a := (pE T L (pF T L k) 100 (c 108 13 + 1) 0 0).2.1) (by omega)
          have f14 : ∀ kk j, ¬ (kk = 108 ∧ (j = 24 ∨ j = 25 ∨ j = 13)) → c14 kk j = c8 kk j := fun kk j a => by rw [e14, e13, e12]; unfold up2; rw [if_neg (by omega), if_neg (by omega), if_neg (by omega)]
          have r0 : c14 120 = c8 120 := funext (fun j => f14 120 j (by omega))
          have r1 : c14 121 = c8 121 := funext (fun j => f14 121 j (by omega))
          have fm : mTk c14 = mTk c8 := by unfold mTk; rw [r0]
          have p14 : PS c0 c14 x stk (out ++ (pE T L (pF T L k) 100 (c 108 13 + 1) 0 0).2.2) := by
            refine ⟨fun kk j a => by rw [f14 kk j (by omega)]; exact g1 kk j a, by rw [f14 108 23 (by omega)]; exact g2, fun j a => by rw [r0]; exact g3 j a, by rw [fm]; exact g4, ?_, by rw [r1]; exact g6.2, ?_, fun b' m => g8 b' (List.mem_cons_of_mem _ m)⟩
            · rw [e14, up2_ne2 (by decide), e13, up2_ne2 (by decide), e12, up2_self, g5]; simp
            · rw [e14, up2_ne2 (by decide), e13, up2_self, e12, up2_ne2 (by decide), g7, opn, if_pos (Or.inr rfl)]; omega
          have q14 : c14 108 13 = (pE T L (pF T L k) 100 (c 108 13 + 1) 0 0).2.1 + 1 := by rw [e14, up2_self, e13, up2_ne2 (by decide), e12, up2_ne2 (by decide), q8]
          exact e_X9_whole (m_whole (d := d + 3) hf hb0 _ _ c14 p14 (by have := okE.1; omega) (fun c15 p15 q15 => h1 (show (1 : Int) ≠ 0 by decide) c15 p15 (by rw [q15, q14])))
        · rw [if_neg y2] at h0
          exact h0 rfl c8 _ _ p8 q8
    · by_cases z2 : nx T L (c 108 13) = 33
      · rw [if_neg z, if_pos z2] at h0 h1
        have l1 := nx_lt (T := T) (L := L) (a := c 108 13) (by omega)
        refine nest 33 stk out c (Or.inl rfl) z2 hP hp hb (fun q => absurd q (by omega)) (fun _ c6 p6 q6 => ?_)
        refine hF (33 :: stk) out c6 p6 (by omega) (by rw [opn, if_pos (Or.inl rfl), hn]; omega) (by simp only [List.length_cons]; omega) ?_ ?_
        · rw [q6]
          intro y c' s' o' p' q'
          rw [if_pos y] at h0
          exact h0 rfl c' s' o' p' q'
        · rw [q6]
          intro y c' p' q'
          rw [if_neg y] at h1
          refine h1 (show (1 : Int) ≠ 0 by decide) c' ?_ q'
          rw [whS, if_pos rfl, List.append_assoc] at p'
          exact p'
      · rw [if_neg z, if_neg z2] at h0 h1
        exact m_test22 hM hf hb0 hP hp hb z z2 h0 h1
