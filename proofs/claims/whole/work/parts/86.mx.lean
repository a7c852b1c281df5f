/-! HOUSES read by the reference: clauses, a whole text -/
def FRP (c c' : ct) (x : Int) : Prop := ∀ k j, ¬ ((k = 108 ∧ ((13 ≤ j ∧ j ≤ 14) ∨ (23 ≤ j ∧ j ≤ 25))) ∨ ((116 ≤ k ∧ k ≤ 119) ∧ j = x) ∨ (k = 120 ∧ c 108 23 ≤ j) ∨ k = 121) → c' k j = c k j
theorem m_takesE {c : ct} {K : SK} {d : Nat} {Q : ct → Int → Prop} {x f : Int} {T : Int → Int} {L : Int} (hx : 0 ≤ x ∧ x < 60) (hM : MRD c T L) (hf : 0 ≤ f ∧ f ≤ 5) (hp : 1 ≤ c 108 13 ∧ c 108 13 ≤ L) (hb0 : 100 * f ≤ c 108 23) (hb : c 108 23 ≤ 100 * f + c 108 13) (h0 : (pE T L (pF T L 4) 100 (c 108 13) 0 0).1 = 0 → ∀ c', FRP c c' x → (∀ k, 116 ≤ k → k ≤ 117 → c' k x = c k x) → c' 108 13 = (pE T L (pF T L 4) 100 (c 108 13) 0 0).2.1 → Q c' 0) (h1 : (pE T L (pF T L 4) 100 (c 108 13) 0 0).1 ≠ 0 → ∀ c', FRP c c' x → (∀ k, 116 ≤ k → k ≤ 117 → c' k x = c k x) → c' 108 23 = c 108 23 + (pE T L (pF T L 4) 100 (c 108 13) 0 0).2.2.length → c' 118 x = c 108 23 → c' 119 x = c' 108 23 → lsAt (mTk c') (c 108 23) (pE T L (pF T L 4) 100 (c 108 13) 0 0).2.2 → c' 108 13 = (pE T L (pF T L 4) 100 (c 108 13) 0 0).2.1 → Q c' 1) : CI K (d + 6) mX9_takesE [(2, 108), (0, x)] c Q := by
  have l100 := hM.1.2.2
  refine e_X9_takesE x (s_X9_takesE_0 x (fun c1 e1 c2 e2 => ⟨hx, fun c3 e3 => ?_⟩))
  have f3 : ∀ k j, ¬ (k = 108 ∧ (j = 24 ∨ j = 25)) → ¬ (k = 118 ∧ j = x) → c3 k j = c k j := fun k j a b => by
    rw [e3]; unfold up2; rw [if_neg b, e2]; unfold up2; rw [if_neg (by omega), e1]; unfold up2; rw [if_neg (by omega)]
  have e23 : c3 108 23 = c 108 23 := f3 108 23 (by omega) (by omega)
  have e13 : c3 108 13 = c 108 13 := f3 108 13 (by omega) (by omega)
  have e118 : c3 118 x = c 108 23 := by rw [e3, up2_self, e2, up2_ne2 (by decide), e1, up2_ne2 (by decide)]
  have M3 : MRD c3 T L := MRD_c hM (f3 108 12 (by omega) (by omega)) (fun j => f3 114 j (by omega) (by omega)) (fun j => f3 122 j (by omega) (by omega))
  have p3 : PS c3 c3 x (pnd 0 0 ++ []) [] := by
    refine ⟨fun _ _ _ => rfl, by simp, fun _ _ => rfl, trivial, ?_, trivial, ?_, fun b m => by simp [pnd] at m⟩
    · rw [e3, up2_ne1 (by decide), e2, up2_ne2 (by decide), e1, up2_self]; rfl
    · rw [e3, up2_ne1 (by decide), e2, up2_self]; rfl
  have fin : ∀ c' s' o', PS c3 c' x s' o' → FRP c c' x ∧ ∀ k, 116 ≤ k → k ≤ 117 → c' k x = c k x := fun c' s' o' p' => by
    obtain ⟨g1, g2, g3, g4, g5, g6, g7, g8⟩ := p'
    refine ⟨fun k j a => ?_, fun k a b => by rw [g1 k x (by omega)]; exact f3 k x (by omega) (by omega)⟩
    by_cases z : k = 120
    · subst z; rw [g3 j (by omega)]; exact f3 120 j (by omega) (by omega)
    · rw [g1 k j (by omega)]; exact f3 k j (by omega) (by omega)
  have hF := m_factor (c0 := c3) (K := K) (d := d) (Q := Q) hx M3 hf (by rw [e23]; exact hb0) 4 (by decide)
  refine m_either hx M3 hf (by rw [e23]; exact hb0) hF (pF_ok 4) 100 0 0 [] [] c3 (Or.inl rfl) (Or.inl rfl) (Or.inl rfl) rfl p3 (by omega) (by omega) (by rw [e23, e13]; simp [pnd]; omega) ?_ ?_
  · rw [e13]
    intro z c' s' o' p' q'
    obtain ⟨a, b⟩ := fin c' s' o' p'
    exact h0 z c' a b q'
  · rw [e13]
    intro z c8 p8 t8 q8 b8
    obtain ⟨a, b⟩ := fin c8 _ _ p8
    have g2 := p8.2.1
    have g4 := p8.2.2.2.1
    rw [List.nil_append] at g2 g4
    rw [e23] at g2 g4
    refine ⟨fun _ => h1 z c8 a b g2 ?_ t8 g4 q8, fun y => absurd p8.2.2.2.2.1 y⟩
    rw [p8.1 118 x (by omega), e118]
theorem m_takesHead {c : ct} {K : SK} {d : Nat} {Q : ct → Int → Prop} {x : Int} {T : Int → Int} {L : Int} (hx : 0 ≤ x ∧ x < 60) (hM : MRD c T L) (hp : 0 ≤ c 108 13 ∧ c 108 13 ≤ L) (h : ∀ c', (∀ k j, ¬ ((k = 108 ∧ (j = 13 ∨ j = 14)) ∨ (k = 116 ∧ j = x)) → c' k j = c k j) → c' 116 x = (wdI (nx T L (c 108 13)) : Int) → c' 108 13 = wdE T L (c 108 13) → Q c' (wdF T L (c 108 13))) : CI K (d + 4) mX9_takesHead [(2, 108), (0, x)] c Q := by
  have l100 := hM.1.2.2
  have hn := mnx_r hM hp.1
  have w := wd_r (T := T) hp.2
  have go : ∀ (si : Nat) (c4 : ct), wdI (nx T L (c 108 13)) = si → si < 4 → c4 = up2 c 116 x (si : Int) → CI K (d + 3) mX9_takesWord [(2, 108), (0, (wF4 si : Int)), (0, ((wl4 si - 1 : Nat) : Int))] c4 (fun c6 r7 => (r7 = 0 ∨ r7 = 1) ∧ Q c6 r7) := fun si c4 e hs e4 => by
    have f4 : ∀ k j, ¬ (k = 116 ∧ j = x) → c4 k j = c k j := fun k j a => by rw [e4]; unfold up2; rw [if_neg a]
    have e13 : c4 108 13 = c 108 13 := f4 108 13 (by omega)
    refine m_takesWord (d := d) hs (MRD_c hM (f4 108 12 (by omega)) (fun j => f4 114 j (by omega)) (fun j => f4 122 j (by omega))) (by omega) (fun c6 o6 p6 => ?_)
    rw [e13] at p6 ⊢
    have eE : wmE T L si (wl4 si) 0 (c 108 13) = wdE T L (c 108 13) := by unfold wdE; rw [e]
    have eF : wmF T L si (wl4 si) 0 (c 108 13) = wdF T L (c 108 13) := by unfold wdF; rw [e]
    rw [eF]
    exact ⟨w.2.2, h c6 (fun k j a => by rw [o6 k j (by omega)]; exact f4 k j (by omega)) (by rw [o6 116 x (by omega), e4, up2_self, e]) (by rw [p6, eE])⟩
  have wI : wdI (nx T L (c 108 13)) = if nx T L (c 108 13) = 98 then 0 else if nx T L (c 108 13) = 115 then 1 else if nx T L (c 108 13) = 116 then 2 else 3 := rfl
  refine e_X9_takesHead x (s_X9_takesHead_0 x (m_next (d := d + 2) hM (by omega) ⟨⟨by omega, by omega⟩, fun z => ⟨hx, fun c4 e4 => go 0 c4 (by rw [wI, if_pos z]) (by decide) e4⟩, fun z => ⟨hx, fun c4 e4 => go 1 c4 (by rw [wI, if_neg (by omega), if_pos z]) (by decide) e4⟩, fun z => ⟨hx, fun c4 e4 => go 2 c4 (by rw [wI, if_neg (by omega), if_neg (by omega), if_pos z]) (by decide) e4⟩, fun z => ⟨hx, fun c4 e4 => go 3 c4 (by rw [wI, if_neg z.1, if_neg z.2.1, if_neg z.2.2]) (by decide) e4⟩⟩))
def CLM (c c' : ct) (x : Int) (r : cl4) : Prop := c' 116 x = (r.1 : Int) ∧ c' 117 x = r.2.1 ∧ c' 108 23 = c 108 23 + r.2.2.length ∧ (r.1 < 2 → c' 118 x = c 108 23 ∧ c' 119 x = c' 108 23 ∧ lsAt (mTk c') (c 108 23) r.2.2)
theorem m_takesClause {c : ct} {K : SK} {d : Nat} {Q : ct → Int → Prop} {x f : Int} {T : Int → Int} {L : Int} (hx : 0 ≤ x ∧ x < 60) (hM : MRD c T L) (hf : 0 ≤ f ∧ f ≤ 5) (hp : 0 ≤ c 108 13 ∧ c 108 13 ≤ L) (hb0 : 100 * f ≤ c 108 23) (hb : c 108 23 ≤ 100 * f + c 108 13) (h0 : (pC T L (c 108 13)).1 = 0 → ∀ c', FRP c c' x → c' 108 13 = (pC T L (c 108 13)).2.1 → Q c' 0) (h1 : (pC T L (c 108 13)).1 ≠ 0 → ∀ c', FRP c c' x → CLM c c' x (pC T L (c 108 13)).2.2 → c' 108 13 = (pC T L (c 108 13)).2.1 → Q c' 1) : CI K (d + 8) mX9_takesClause [(2, 108), (0, x)] c Q := by
  have l100 := hM.1.2.2
  have w := wd_r (T := T) hp.2
  unfold pC at h0 h1
  refine e_X9_takesClause x (s_X9_takesClause_0 x (m_takesHead (d := d + 3) hx hM hp (fun c1 f1 g1 p1 => ⟨fun z => ?_, fun z => ⟨ir_01 w.2.2, ?_⟩⟩)))
  · rw [if_pos z] at h0
    exact h0 rfl c1 (fun k j a => f1 k j (by omega)) p1
  · rw [if_neg z] at h0 h1
    have M1 : MRD c1 T L := MRD_c hM (f1 108 12 (by omega)) (fun j => f1 114 j (by omega)) (fun j => f1 122 j (by omega))
    refine m_takesNumber (d := d + 4) M1 (by omega) (fun z2 => bz ?_) (fun c4 z2 o4 p4 v4 => bo ⟨hx, fun c7 e7 => ?_⟩)
    · rw [p1] at z2
      rw [if_pos z2] at h0
      exact h0 rfl c1 (fun k j a => f1 k j (by omega)) p1
    · rw [p1] at z2 p4 v4
      rw [if_neg z2] at h0 h1
      rw [v4] at e7
      have n := nu_r z2
      have f7 : ∀ k j, ¬ ((k = 108 ∧ (j = 13 ∨ j = 14)) ∨ ((116 ≤ k ∧ k ≤ 117) ∧ j = x)) → c7 k j = c k j := fun k j a => by
        rw [e7]; unfold up2; rw [if_neg (by omega), o4 k j (by omega)]; exact f1 k j (by omega)
      have g116 : c7 116 x = (wdI (nx T L (c 108 13)) : Int) := by rw [e7, up2_ne1 (by decide), o4 116 x (by omega)]; exact g1
      have g117 : c7 117 x = nuV T L (wdE T L (c 108 13)) := by rw [e7, up2_self]
      have g13 : c7 108 13 = nuE T L (wdE T L (c 108 13)) := by rw [e7, up2_ne1 (by decide)]; exact p4
      have g23 : c7 108 23 = c 108 23 := f7 108 23 (by omega)
      have M7 : MRD c7 T L := MRD_c hM (f7 108 12 (by omega)) (fun j => f7 114 j (by omega)) (fun j => f7 122 j (by omega))
      have wr := wdI_r (nx T L (c 108 13))
      rw [g116]
      refine ⟨hx, ⟨by omega, by omega⟩, fun y => ?_, fun y => ?_⟩
      · rw [if_pos (by omega)] at h1
        exact h1 (show (1 : Int) ≠ 0 by decide) c7 (fun k j a => f7 k j (by omega)) ⟨g116, g117, by rw [g23]; simp, fun q => absurd q (by show ¬ wdI (nx T L (c 108 13)) < 2; omega)⟩ g13
      · rw [if_neg (by omega)] at h0 h1
        unfold pD at h0 h1
        refine m_takes (d := d + 5) M7 (by omega) ⟨by decide, by decide⟩ (fun y2 => bz ?_) (fun c12 y2 o12 p12 _ => bo ?_)
        · rw [g13] at y2
          rw [if_neg y2] at h0
          exact h0 rfl c7 (fun k j a => f7 k j (by omega)) g13
        · rw [g13] at y2 p12
          rw [if_pos y2] at h0 h1
          have l12 := nx_lt (T := T) (L := L) (a := nuE T L (wdE T L (c 108 13))) (by omega)
          have f12 : ∀ k j, ¬ ((k = 108 ∧ (j = 13 ∨ j = 14)) ∨ ((116 ≤ k ∧ k ≤ 117) ∧ j = x)) → c12 k j = c k j := fun k j a => by rw [o12 k j (by omega)]; exact f7 k j a
          have e23 : c12 108 23 = c 108 23 := f12 108 23 (by omega)
          refine m_takesE (d := d + 1) hx (MRD_o M7 o12) hf (by omega) (by rw [e23]; exact hb0) (by omega) ?_ ?_
          · rw [p12]
            intro y3 c' r' _ p'
            rw [if_pos y3] at h0
            refine bz (h0 rfl c' (fun k j a => ?_) p')
            rw [r' k j (by rw [e23]; omega)]; exact f12 k j (by omega)
          · rw [p12]
            intro y3 c' r' s' t' u1 u2 u3 p'
            rw [if_neg y3] at h1
            rw [e23] at t' u1 u3
            refine bo (h1 (show (1 : Int) ≠ 0 by decide) c' (fun k j a => ?_) ⟨?_, ?_, t', fun _ => ⟨u1, u2, u3⟩⟩ p')
            · rw [r' k j (by rw [e23]; omega)]; exact f12 k j (by omega)
            · rw [s' 116 (by decide) (by decide), o12 116 x (by omega)]; exact g116
            · rw [s' 117 (by decide) (by decide), o12 117 x (by omega)]; exact g117
/-- the clauses as they lie at the reference -/
def MWL (c : ct) (f : Int) : Int → List cl4 → Prop
  | _, [] => True
  | k, r :: l => (c 116 k = (r.1 : Int) ∧ c 117 k = r.2.1 ∧ r.1 < 4 ∧ (0 ≤ r.2.1 ∧ r.2.1 ≤ 99) ∧ (r.1 < 2 → 0 ≤ c 118 k ∧ c 119 k = c 118 k + r.2.2.length ∧ c 119 k ≤ 100 * f + 100 ∧ lsAt (mTk c) (c 118 k) r.2.2 ∧ wlk r.2.2 0 1)) ∧ MWL c f (k + 1) l
def FRG (c c' : ct) (k0 f : Int) : Prop := ∀ k j, ¬ ((k = 108 ∧ ((13 ≤ j ∧ j ≤ 14) ∨ (23 ≤ j ∧ j ≤ 25))) ∨ ((116 ≤ k ∧ k ≤ 119) ∧ k0 ≤ j) ∨ (k = 120 ∧ c 108 23 ≤ j) ∨ k = 121 ∨ (k = 115 ∧ j = f)) → c' k j = c k j
theorem m_goesText {c : ct} {K : SK} {d : Nat} {Q : ct → Int → Prop} {f : Int} {T : Int → Int} {L : Int} (hM : MRD c T L) (hf : 0 ≤ f ∧ f ≤ 5) (h0 : (pH T L 10 0).1 ≠ -1 → ∀ c', (∀ k j, ¬ ((k = 108 ∧ ((13 ≤ j ∧ j ≤ 14) ∨ (23 ≤ j ∧ j ≤ 25))) ∨ ((116 ≤ k ∧ k ≤ 119) ∧ 10 * f ≤ j) ∨ (k = 120 ∧ 100 * f ≤ j) ∨ k = 121 ∨ (k = 115 ∧ j = f)) → c' k j = c k j) → c' 108 13 = (pH T L 10 0).1 → Q c' 0) (h1 : (pH T L 10 0).1 = -1 → ∀ c', (∀ k j, ¬ ((k = 108 ∧ ((13 ≤ j ∧ j ≤ 14) ∨ (23 ≤ j ∧ j ≤ 25))) ∨ ((116 ≤ k ∧ k ≤ 119) ∧ 10 * f ≤ j) ∨ (k = 120 ∧ 100 * f ≤ j) ∨ k = 121 ∨ (k = 115 ∧ j = f)) → c' k j = c k j) → c' 115 f = ((pH T L 10 0).2.length : Int) → (pH T L 10 0).2.length ≤ 10 → MWL c' f (10 * f) (pH T L 10 0).2 → Q c' 1) : CI K (d + 9) mX9_goesText [(2, 108), (0, f)] c Q := by
  have l100 := hM.1.2.2
  have l000 := hM.1.2.1
  have loop : ∀ (m : Nat) (a2 : Int) (c1 : ct) (Q : ct → Int → Prop), a2 = 10 - m → 0 ≤ a2 → a2 < 10 → MRD c1 T L → (0 ≤ c1 108 13 ∧ c1 108 13 ≤ L) → 100 * f ≤ c1 108 23 → c1 108 23 ≤ 100 * f + c1 108 13 → ((pH T L m (c1 108 13)).1 ≠ -1 → ∀ c', FRG c1 c' (10 * f + a2) f → c' 108 13 = (pH T L m (c1 108 13)).1 → Q c' 0) → ((pH T L m (c1 108 13)).1 = -1 → ∀ c', FRG c1 c' (10 * f + a2) f → c' 115 f = a2 + (pH T L m (c1 108 13)).2.length → (pH T L m (c1 108 13)).2.length ≤ m → MWL c' f (10 * f + a2) (pH T L m (c1 108 13)).2 → Q c' 1) → WI K (d + 9) mX9_goesText 15 [(2, 108), (0, f), (0, a2)] [] c1 Q := by
    intro m
    induction m with
    | zero => intro a2 c1 Q ha a0 a9 hM1 hp hb0 hb q0 q1; omega
    | succ m ih =>
      intro a2 c1 Q ha a0 a9 hM1 hp hb0 hb q0 q1
      obtain ⟨⟨k1, k2⟩, k3, k4⟩ := pC_ok (T := T) hp.2
      rw [pH] at q0 q1
      refine s_X9_goesText_15 f a2 (m_takesClause (d := d) ⟨by omega, by omega⟩ hM1 hf hp hb0 hb (fun z c' r' p' => bz ?_) (fun z c2 r2 t2 p2 => bo ⟨⟨by omega, by omega⟩, fun c4 e4 => ?_⟩))
      · rw [if_pos z] at q0
        exact q0 (show (pC T L (c1 108 13)).2.1 ≠ -1 by omega) c' (fun k j a => r' k j (by omega)) p'
      · rw [if_neg z] at q0 q1
        obtain ⟨k5, k6, k7, k8, k9⟩ := k4 z
        obtain ⟨t21, t22, t23, t24⟩ := t2
        have f4 : ∀ k j, ¬ (k = 115 ∧ j = f) → c4 k j = c2 k j := fun k j a => by rw [e4]; unfold up2; rw [if_neg a]
        have e13 : c4 108 13 = (pC T L (c1 108 13)).2.1 := by rw [f4 108 13 (by omega)]; exact p2
        have e23 : c4 108 23 = c1 108 23 + (pC T L (c1 108 13)).2.2.2.2.length := by rw [f4 108 23 (by omega)]; exact t23
        have g4 : FRG c1 c4 (10 * f + a2) f := fun k j a => by rw [f4 k j (by omega)]; exact r2 k j (by omega)
        have M4 : MRD c4 T L := MRD_c hM1 (g4 108 12 (by omega)) (fun j => g4 114 j (by omega)) (fun j => g4 122 j (by omega))
        have e115 : c4 115 f = a2 + 1 := by rw [e4, up2_self]
        -- what this clause left stays
        have mine : ∀ c' : ct, (∀ k j, ¬ ((k = 108 ∧ ((13 ≤ j ∧ j ≤ 14) ∨ (23 ≤ j ∧ j ≤ 25))) ∨ ((116 ≤ k ∧ k ≤ 119) ∧ 10 * f + a2 + 1 ≤ j) ∨ (k = 120 ∧ c4 108 23 ≤ j) ∨ k = 121 ∨ (k = 115 ∧ j = f)) → c' k j = c4 k j) → (c' 116 (10 * f + a2) = ((pC T L (c1 108 13)).2.2.1 : Int) ∧ c' 117 (10 * f + a2) = (pC T L (c1 108 13)).2.2.2.1 ∧ (pC T L (c1 108 13)).2.2.1 < 4 ∧ (0 ≤ (pC T L (c1 108 13)).2.2.2.1 ∧ (pC T L (c1 108 13)).2.2.2.1 ≤ 99) ∧ ((pC T L (c1 108 13)).2.2.1 < 2 → 0 ≤ c' 118 (10 * f + a2) ∧ c' 119 (10 * f + a2) = c' 118 (10 * f + a2) + (pC T L (c1 108 13)).2.2.2.2.length ∧ c' 119 (10 * f + a2) ≤ 100 * f + 100 ∧ lsAt (mTk c') (c' 118 (10 * f + a2)) (pC T L (c1 108 13)).2.2.2.2 ∧ wlk (pC T L (c1 108 13)).2.2.2.2 0 1)) := fun c' g' => by
          rw [g' 116 _ (by omega), g' 117 _ (by omega), f4 116 _ (by omega), f4 117 _ (by omega)]
          refine ⟨t21, t22, k6, k7, fun y => ?_⟩
          obtain ⟨v1, v2, v3⟩ := t24 y
          rw [g' 118 _ (by omega), g' 119 _ (by omega), f4 118 _ (by omega), f4 119 _ (by omega), v1, v2, t23]
          refine ⟨by omega, rfl, by omega, lsAt_congr _ _ (fun j b1 b2 => ?_) v3, k9 y⟩
          show trT (c' 120 j) = trT (c2 120 j)
          rw [g' 120 j (by omega), f4 120 j (by omega)]
        rw [e13, M4.1.1]
        refine ⟨fun y => ?_, fun y => ⟨⟨⟨by omega, by omega⟩, ⟨by omega, by omega⟩⟩, fun y2 => ?_, fun y2 => ⟨⟨by omega, by omega⟩, m_takes (d := d + 6) M4 (by omega) ⟨by decide, by decide⟩ (fun y3 => bz ?_) (fun c8 y3 o8 p8 _ => bo ?_)⟩⟩⟩
        · rw [if_pos (by omega)] at q1
          refine q1 rfl c4 g4 (by rw [e115]; rfl) (by simp) ⟨mine c4 (fun _ _ _ => rfl), trivial⟩
        · rw [if_neg (by omega), if_pos (by omega)] at q0
          exact q0 (show (pC T L (c1 108 13)).2.1 ≠ -1 by omega) c4 g4 e13
        · rw [e13] at y3
          rw [if_neg (by omega), if_neg (by omega), if_neg y3] at q0
          exact q0 (show (pC T L (c1 108 13)).2.1 ≠ -1 by omega) c4 g4 e13
        · rw [e13] at y3 p8
          rw [if_neg (by omega), if_neg (by omega), if_pos y3] at q0 q1
          have l8 := nx_lt (T := T) (L := L) (a := (pC T L (c1 108 13)).2.1) (by omega)
          have e823 : c8 108 23 = c4 108 23 := o8 108 23 (by omega)
          refine ih (a2 + 1) c8 Q (by omega) (by omega) (by omega) (MRD_o M4 o8) (by omega) (by omega) (by omega) ?_ ?_
          · rw [p8]
            intro y4 c' r' p'
            refine q0 y4 c' (fun k j a => ?_) p'
            rw [r' k j (by rw [e823]; omega), o8 k j (by omega)]; exact g4 k j a
          · rw [p8]
            intro y4 c' r' n' b' w'
            refine q1 y4 c' (fun k j a => ?_) (by rw [n']; simp only [List.length_cons]; omega) (by simp only [List.length_cons]; omega) ⟨mine c' (fun k j a => ?_), by rw [show 10 * f + a2 + 1 = 10 * f + (a2 + 1) by omega]; exact w'⟩
            · rw [r' k j (by rw [e823]; omega), o8 k j (by omega)]; exact g4 k j a
            · rw [r' k j (by rw [e823]; omega), o8 k j (by omega)]
  refine e_X9_goesText f (s_X9_goesText_0 f (fun c1 e1 c2 e2 => ?_))
  have f2 : ∀ k j, ¬ (k = 108 ∧ (j = 13 ∨ j = 23)) → c2 k j = c k j := fun k j a => by rw [e2, e1]; unfold up2; rw [if_neg (by omega), if_neg (by omega)]
  have e13 : c2 108 13 = 0 := by rw [e2, up2_ne2 (by decide), e1, up2_self]
  have e23 : c2 108 23 = 100 * f := by rw [e2, up2_self]
  refine loop 10 0 c2 Q (by decide) (by decide) (by decide) (MRD_c hM (f2 108 12 (by omega)) (fun j => f2 114 j (by omega)) (fun j => f2 122 j (by omega))) (by omega) (by omega) (by omega) ?_ ?_
  · rw [e13]
    intro y c' r' p'
    refine h0 y c' (fun k j a => ?_) p'
    rw [r' k j (by rw [e23]; omega)]; exact f2 k j (by omega)
  · rw [e13]
    intro y c' r' n' b' w'
    rw [show 10 * f + 0 = 10 * f by omega] at w'
    refine h1 y c' (fun k j a => ?_) (by rw [n']; omega) b' w'
    rw [r' k j (by rw [e23]; omega)]; exact f2 k j (by omega)
