/-! HOUSES read by the reference: its small parts -/
def MRD (c : ct) (T : Int → Int) (L : Int) : Prop := (c 108 12 = L ∧ 0 ≤ L ∧ L ≤ 100) ∧ (∀ i, 0 ≤ i → i < L → c 114 i = T i ∧ 0 ≤ T i ∧ T i ≤ 127) ∧ LT c
theorem MRD_c {c c' : ct} {T : Int → Int} {L : Int} (h : MRD c T L) (h12 : c' 108 12 = c 108 12) (h1 : ∀ j, c' 114 j = c 114 j) (h2 : ∀ j, c' 122 j = c 122 j) : MRD c' T L := by
  unfold MRD LT at h ⊢
  simp only [h12, h1, h2]
  exact h
theorem mnx_r {c : ct} {T : Int → Int} {L a : Int} (h : MRD c T L) (ha : 0 ≤ a) : -1 ≤ nx T L a ∧ nx T L a ≤ 127 := by
  unfold nx
  split
  · have := (h.2.1 a ha (by assumption)).2; omega
  · omega
theorem m_next {K : SK} {d : Nat} {c : ct} {Q : ct → Int → Prop} {T : Int → Int} {L : Int} (h : MRD c T L) (ha : 0 ≤ c 108 13 ∧ c 108 13 ≤ 200) (hq : Q c (nx T L (c 108 13))) : CI K (d + 1) mX9_next [(2, 108)] c Q := by
  obtain ⟨⟨h1, l0, l1⟩, h2, h3⟩ := h
  unfold nx at hq
  refine e_X9_next (s_X9_next_0 ?_)
  rw [h1]
  refine ⟨⟨⟨by omega, by omega⟩, ⟨by omega, by omega⟩⟩, fun z => ?_, fun z => ⟨by omega, ?_⟩⟩
  · rw [if_neg (by omega)] at hq; exact hq
  · rw [if_pos (by omega), ← (h2 _ ha.1 (by omega)).1] at hq; exact hq
/-- nothing changed but the place and the number -/
def mO (c c' : ct) : Prop := ∀ k j, ¬ (k = 108 ∧ (j = 13 ∨ j = 14)) → c' k j = c k j
theorem mO.rf {c : ct} : mO c c := fun _ _ _ => rfl
theorem mO.trans {c c1 c2 : ct} (h1 : mO c c1) (h2 : mO c1 c2) : mO c c2 := fun k j a => (h2 k j a).trans (h1 k j a)
theorem MRD_o {c c' : ct} {T : Int → Int} {L : Int} (h : MRD c T L) (o : mO c c') : MRD c' T L := MRD_c h (o 108 12 (by omega)) (fun j => o 114 j (by omega)) (fun j => o 122 j (by omega))
theorem m_takes {K : SK} {d : Nat} {c : ct} {Q : ct → Int → Prop} {T : Int → Int} {L s : Int} (h : MRD c T L) (ha : 0 ≤ c 108 13 ∧ c 108 13 ≤ 200) (hs : ir s) (h0 : nx T L (c 108 13) ≠ s → Q c 0) (h1 : ∀ c', nx T L (c 108 13) = s → mO c c' → c' 108 13 = c 108 13 + 1 → c' 108 14 = c 108 14 → Q c' 1) : CI K (d + 2) mX9_takes [(2, 108), (0, s)] c Q := by
  have hn := mnx_r h ha.1
  refine e_X9_takes s (s_X9_takes_0 s (m_next h ha ⟨fun z c4 e4 => ?_, fun z => ⟨⟨⟨by omega, by omega⟩, hs⟩, h0 z⟩⟩))
  exact h1 c4 z (fun k j a => by rw [e4]; unfold up2; rw [if_neg (by omega)]) (by rw [e4, up2_self]) (by rw [e4, up2_ne2 (by decide)])
theorem m_isDigit {K : SK} {d : Nat} {c : ct} {Q : ct → Int → Prop} {T : Int → Int} {L : Int} (h : MRD c T L) (ha : 0 ≤ c 108 13 ∧ c 108 13 ≤ 200) (h0 : dgt T L (c 108 13) = 10 → Q c 0) (h1 : dgt T L (c 108 13) ≠ 10 → nx T L (c 108 13) = dgt T L (c 108 13) + 48 → Q c 1) : CI K (d + 2) mX9_isDigit [(2, 108)] c Q := by
  have hn := mnx_r h ha.1
  refine e_X9_isDigit (s_X9_isDigit_0 (m_next h ha (m_in (d := d) ⟨by omega, by omega⟩ ⟨by decide, by decide⟩ ⟨by decide, by decide⟩ (fun z => ⟨Or.inl rfl, h0 ?_⟩) (fun a b => ⟨Or.inr rfl, h1 ?_ ?_⟩))))
  · unfold dgt; rw [if_neg z]
  · unfold dgt; rw [if_pos ⟨a, b⟩]; omega
  · unfold dgt; rw [if_pos ⟨a, b⟩]; omega
theorem m_takesNumber {K : SK} {d : Nat} {c : ct} {Q : ct → Int → Prop} {T : Int → Int} {L : Int} (h : MRD c T L) (ha : 0 ≤ c 108 13 ∧ c 108 13 ≤ 150) (h0 : dgt T L (c 108 13) = 10 → Q c 0) (h1 : ∀ c', dgt T L (c 108 13) ≠ 10 → mO c c' → c' 108 13 = nuE T L (c 108 13) → c' 108 14 = nuV T L (c 108 13) → Q c' 1) : CI K (d + 3) mX9_takesNumber [(2, 108)] c Q := by
  refine e_X9_takesNumber (s_X9_takesNumber_0 (m_isDigit (d := d) h (by omega) (fun z => bz (h0 z)) (fun z _ => bo (fun c4 e4 => ?_))))
  have o4 : mO c c4 := fun k j a => by rw [e4]; unfold up2; rw [if_neg (by omega)]
  have p4 : c4 108 13 = c 108 13 := by rw [e4, up2_ne2 (by decide)]
  have v4 : c4 108 14 = 0 := by rw [e4, up2_self]
  clear e4
  have n1 := dg_lt z
  refine s_X9_takesNumber_16 0 ⟨⟨by decide, by decide⟩, fun y => absurd y (by decide), fun _ => m_isDigit (d := d) (MRD_o h o4) (by omega) (fun y => absurd (by rw [← p4]; exact y) z) (fun y y2 => bo (m_next (d := d + 1) (MRD_o h o4) (by omega) (fun c8 e8 c9 e9 => ?_)))⟩
  rw [v4, y2, p4] at e8
  have o9 : mO c c9 := o4.trans (fun k j a => by rw [e9, e8]; unfold up2; rw [if_neg (by omega), if_neg (by omega)])
  have p9 : c9 108 13 = c 108 13 + 1 := by rw [e9, up2_self, e8, up2_ne2 (by decide), p4]
  have v9 : c9 108 14 = dgt T L (c 108 13) := by rw [e9, up2_ne2 (by decide), e8, up2_self]; omega
  clear e8 e9
  refine s_X9_takesNumber_16 1 ⟨⟨by decide, by decide⟩, fun y => absurd y (by decide), fun _ => m_isDigit (d := d) (MRD_o h o9) (by omega) (fun y3 => bz ?_) (fun y3 y4 => bo (m_next (d := d + 1) (MRD_o h o9) (by omega) (fun c12 e12 c13 e13 => ?_)))⟩
  · rw [p9] at y3
    exact h1 c9 z o9 (by unfold nuE; rw [if_pos y3, p9]) (by unfold nuV; rw [if_pos y3, v9])
  · rw [p9] at y3 y4
    rw [v9, p9, y4] at e12
    refine s_X9_takesNumber_16 2 ⟨⟨by decide, by decide⟩, fun _ => h1 c13 z (o9.trans (fun k j a => by rw [e13, e12]; unfold up2; rw [if_neg (by omega), if_neg (by omega)])) ?_ ?_, fun y => absurd (by decide) y⟩
    · unfold nuE; rw [if_neg y3, e13, up2_self, e12, up2_ne2 (by decide), p9]; omega
    · unfold nuV; rw [if_neg y3, e13, up2_ne2 (by decide), e12, up2_self]; omega
def wF4 (si : Nat) : Nat := if si = 0 then 0 else if si = 1 then 4 else if si = 2 then 8 else 14
theorem lt_wc : ∀ si : Nat, si < 4 → (∀ i : Nat, i < wl4 si - 1 → wF4 si + i < 20 ∧ ltL.getD (wF4 si + i) 0 = wc si i) ∧ wc si ((wl4 si - 1 : Nat) : Int) = 32 := by decide +kernel
theorem m_takesWord {K : SK} {d : Nat} {c : ct} {Q : ct → Int → Prop} {T : Int → Int} {L : Int} {si : Nat} (hs : si < 4) (h : MRD c T L) (ha : 0 ≤ c 108 13 ∧ c 108 13 ≤ 100) (hq : ∀ c', mO c c' → c' 108 13 = wmE T L si (wl4 si) 0 (c 108 13) → Q c' (wmF T L si (wl4 si) 0 (c 108 13))) : CI K (d + 3) mX9_takesWord [(2, 108), (0, (wF4 si : Int)), (0, ((wl4 si - 1 : Nat) : Int))] c Q := by
  have hl := wl_r hs
  have hw := lt_wc si hs
  have wb : ∀ i : Int, 0 ≤ i → i < wl4 si → 0 ≤ wc si i ∧ wc si i ≤ 127 := fun i a b => by
    have := (wc_b si hs i.toNat (by omega)).2.2
    rw [show ((i.toNat : Nat) : Int) = i by omega] at this
    exact this
  have loop : ∀ (n : Nat) (i : Int) (c1 : ct), i = ((wl4 si - 1 : Nat) : Int) - n → 0 ≤ i → mO c c1 → c1 108 13 = c 108 13 + i → wmE T L si (n + 1) i (c1 108 13) = wmE T L si (wl4 si) 0 (c 108 13) → wmF T L si (n + 1) i (c1 108 13) = wmF T L si (wl4 si) 0 (c 108 13) → WI K (d + 3) mX9_takesWord 2 [(2, 108), (0, (wF4 si : Int)), (0, ((wl4 si - 1 : Nat) : Int)), (0, i)] [] c1 Q := by
    intro n
    induction n with
    | zero =>
      intro i c1 hi i0 ho e1 eE eF
      have hi' : i = ((wl4 si - 1 : Nat) : Int) := by omega
      rw [wmE, hi', hw.2] at eE
      rw [wmF, hi', hw.2] at eF
      refine s_X9_takesWord_2 _ _ i ⟨⟨⟨by omega, by omega⟩, ⟨by omega, by omega⟩⟩, fun _ => m_takes (d := d) (MRD_o h ho) (by omega) ⟨by decide, by decide⟩ (fun z => ⟨Or.inl rfl, ?_⟩) (fun c2 z o2 p2 _ => ⟨Or.inr rfl, ?_⟩), fun z => absurd (by omega) z⟩
      · rw [if_neg z] at eE eF
        have := hq c1 ho eE
        rw [← eF] at this; exact this
      · rw [if_pos z] at eE eF
        have := hq c2 (ho.trans o2) (by rw [p2]; exact eE)
        rw [← eF] at this; exact this
    | succ n ih =>
      intro i c1 hi i0 ho e1 eE eF
      have hi2 := hw.1 i.toNat (by omega)
      rw [show ((i.toNat : Nat) : Int) = i by omega] at hi2
      have lt := (MRD_o h ho).2.2 (wF4 si + i.toNat) hi2.1
      rw [hi2.2, show (((wF4 si + i.toNat : Nat)) : Int) = (wF4 si : Int) + i by omega] at lt
      have wi := wb i i0 (by omega)
      rw [wmE] at eE
      rw [wmF] at eF
      refine s_X9_takesWord_2 _ _ i ⟨⟨⟨by omega, by omega⟩, ⟨by omega, by omega⟩⟩, fun z => absurd z (by omega), fun _ => ⟨⟨by omega, by omega⟩, ?_⟩⟩
      rw [lt]
      refine m_takes (d := d) (MRD_o h ho) (by omega) ⟨by omega, by omega⟩ (fun z => bz ?_) (fun c2 z o2 p2 _ => bo ?_)
      · rw [if_neg z] at eE eF
        have := hq c1 ho eE
        rw [← eF] at this; exact this
      · rw [if_pos z] at eE eF
        refine ih (i + 1) c2 (by omega) (by omega) (ho.trans o2) (by omega) (by rw [p2]; exact eE) (by rw [p2]; exact eF)
  refine e_X9_takesWord _ _ (s_X9_takesWord_0 _ _ (loop (wl4 si - 1) 0 c (by omega) (by decide) mO.rf (by omega) ?_ ?_))
  · rw [show wl4 si - 1 + 1 = wl4 si by omega]
  · rw [show wl4 si - 1 + 1 = wl4 si by omega]
theorem m_place {K : SK} {d : Nat} {c : ct} {Q : ct → Int → Prop} {x : Int} (hx : ir x) (h : Q c (fcL x)) : CI K (d + 1) mX9_place [(2, 108), (0, x)] c Q := by
  unfold fcL at h
  refine e_X9_place x (s_X9_place_0 x ⟨hx, ?_⟩)
  refine ⟨fun z => ?_, fun z => ?_, fun z => ?_, fun z => ?_, fun z => ?_, fun z => ?_, fun z => ?_, fun z => ?_, fun z => ?_, fun z => ?_, fun z => ?_, fun z => ?_, fun z => ?_, fun z => ?_, fun z => ?_, fun z => ?_, fun z => ?_⟩
  all_goals first | (subst z; exact h) | skip
  repeat rw [if_neg (show ¬ x = _ by omega)] at h
  exact h
/-! the stack of what waits -/
def opn : List Int → Int
  | [] => 0
  | b :: s => (if b = 33 ∨ b = 40 then 1 else 0) + opn s
def okS (l : List Int) : Prop := ∀ b ∈ l, b = 33 ∨ b = 38 ∨ b = 40 ∨ b = 124
def PS (c0 c : ct) (x : Int) (stk out : List Int) : Prop := (∀ k j, ¬ ((k = 108 ∧ ((13 ≤ j ∧ j ≤ 14) ∨ (23 ≤ j ∧ j ≤ 25))) ∨ k = 120 ∨ k = 121 ∨ (k = 119 ∧ j = x)) → c k j = c0 k j) ∧ c 108 23 = c0 108 23 + out.length ∧ (∀ j, j < c0 108 23 → c 120 j = c0 120 j) ∧ lsAt (mTk c) (c0 108 23) out ∧ c 108 24 = stk.length ∧ pil (c 121) stk ∧ c 108 25 = opn stk ∧ okS stk
theorem PS_o {c0 c c' : ct} {x : Int} {stk out : List Int} (h : PS c0 c x stk out) (o : mO c c') : PS c0 c' x stk out := by
  obtain ⟨h1, h2, h3, h4, h5, h6, h7, h8⟩ := h
  have e0 : c' 120 = c 120 := funext (fun j => o 120 j (by omega))
  have e1 : c' 121 = c 121 := funext (fun j => o 121 j (by omega))
  have em : mTk c' = mTk c := by unfold mTk; rw [e0]
  refine ⟨fun k j a => by rw [o k j (by omega)]; exact h1 k j a, by rw [o 108 23 (by omega)]; exact h2, fun j a => by rw [e0]; exact h3 j a, by rw [em]; exact h4, by rw [o 108 24 (by omega)]; exact h5, by rw [e1]; exact h6, by rw [o 108 25 (by omega)]; exact h7, h8⟩
theorem PS_M {c0 c : ct} {x : Int} {stk out : List Int} {T : Int → Int} {L : Int} (h : PS c0 c x stk out) (hM : MRD c0 T L) : MRD c T L := MRD_c hM (h.1 108 12 (by omega)) (fun j => h.1 114 j (by omega)) (fun j => h.1 122 j (by omega))
theorem PS_emit {c0 c c1 c3 : ct} {x y : Int} {stk out : List Int} (h : PS c0 c x stk out) (e1 : c1 = up2 c 120 (c 108 23) y) (e3 : c3 = up2 c1 108 23 (c1 108 23 + 1)) : PS c0 c3 x stk (out ++ [trT y]) ∧ c3 108 13 = c 108 13 ∧ c3 108 14 = c 108 14 := by
  obtain ⟨h1, h2, h3, h4, h5, h6, h7, h8⟩ := h
  have f : ∀ k j, ¬ (k = 108 ∧ j = 23) → k ≠ 120 → c3 k j = c k j := fun k j a b => by rw [e3]; unfold up2; rw [if_neg a, e1]; exact up2_ne1 b
  have g : ∀ j, c3 120 j = if j = c 108 23 then y else c 120 j := fun j => by rw [e3, up2_ne1 (by decide), e1]; simp [up2]
  have e23 : c3 108 23 = c 108 23 + 1 := by rw [e3, up2_self, e1, up2_ne1 (by decide)]
  have f1 : c3 121 = c 121 := funext (fun j => f 121 j (by omega) (by decide))
  refine ⟨⟨fun k j a => by rw [f k j (by omega) (by omega)]; exact h1 k j a, by rw [e23, h2, List.length_append]; simp; omega, fun j a => by rw [g, if_neg (by omega)]; exact h3 j a, ?_, by rw [f 108 24 (by omega) (by decide)]; exact h5, by rw [f1]; exact h6, by rw [f 108 25 (by omega) (by decide)]; exact h7, h8⟩, f 108 13 (by omega) (by decide), f 108 14 (by omega) (by decide)⟩
  refine lsAt_app _ _ _ (lsAt_congr _ _ (fun j a b => ?_) h4) ⟨?_, trivial⟩
  · show trT (c3 120 j) = trT (c 120 j)
    rw [g, if_neg (by omega)]
  · show trT (c3 120 _) = trT y
    rw [g, if_pos (by omega)]
theorem m_emits {c0 c : ct} {K : SK} {d : Nat} {Q : ct → Prop} {x y f : Int} {stk out : List Int} (h : PS c0 c x stk out) (hf : 0 ≤ f ∧ f ≤ 5) (h0 : 100 * f ≤ c0 108 23) (hb : c0 108 23 + out.length < 100 * f + 100) (hq : ∀ c', PS c0 c' x stk (out ++ [trT y]) → c' 108 13 = c 108 13 → Q c') : CV K (d + 1) mX9_emits [(2, 108), (0, y)] c Q := by
  have h2 := h.2.1
  refine e_X9_emits y (s_X9_emits_0 y ⟨by omega, fun c1 e1 c3 e3 => ?_⟩)
  obtain ⟨a, b, _⟩ := PS_emit h e1 e3
  exact hq c3 a b
/-- what stands behind ! is done -/
def whS : List Int → List Int → List Int × List Int
  | [], out => ([], out)
  | b :: s, out => if b = 33 then whS s (out ++ [-1]) else (b :: s, out)
theorem m_whole {c0 : ct} {K : SK} {d : Nat} {Q : ct → Prop} {x f : Int} (hf : 0 ≤ f ∧ f ≤ 5) (h0 : 100 * f ≤ c0 108 23) : ∀ (stk out : List Int) (c : ct), PS c0 c x stk out → c0 108 23 + out.length + stk.length ≤ 100 * f + 100 → (∀ c', PS c0 c' x (whS stk out).1 (whS stk out).2 → c' 108 13 = c 108 13 → Q c') → WV K (d + 2) mX9_whole 0 [(2, 108)] [] c Q := by
  intro stk
  induction stk with
  | nil =>
    intro out c h hb hq
    have h5 := h.2.2.2.2.1
    refine s_X9_whole_0 ?_
    rw [h5]
    exact ⟨⟨by simp, by simp⟩, fun _ => hq c h rfl, fun z => absurd (by simp) z⟩
  | cons b s ih =>
    intro out c h hb hq
    obtain ⟨h1, h2, h3, h4, h5, h6, h7, h8⟩ := id h
    simp only [List.length_cons] at hb h5
    have hb8 := h8 b List.mem_cons_self
    refine s_X9_whole_0 ?_
    rw [h5, show ((s.length + 1 : Nat) : Int) - 1 = (s.length : Int) by omega, h6.1]
    rw [whS] at hq
    refine ⟨⟨by omega, by omega⟩, fun z => absurd z (by omega), fun _ => ⟨⟨by omega, by omega⟩, fun z => ?_, fun z => ⟨⟨by omega, by omega⟩, ?_⟩⟩⟩
    · refine m_emits (d := d) h hf h0 (by omega) (fun c5 p5 q5 c7 e7 c8 e8 => ?_)
      rw [if_pos z] at hq
      have t1 : trT (-33) = -1 := rfl
      rw [t1] at p5
      obtain ⟨g1, g2, g3, g4, g5, g6, g7, g8⟩ := p5
      have f8 : ∀ k j, ¬ (k = 108 ∧ (j = 24 ∨ j = 25)) → c8 k j = c5 k j := fun k j a => by rw [e8, e7]; unfold up2; rw [if_neg (by omega), if_neg (by omega)]
      have fr0 : c8 120 = c5 120 := funext (fun j => f8 120 j (by omega))
      have fr1 : c8 121 = c5 121 := funext (fun j => f8 121 j (by omega))
      have fm : mTk c8 = mTk c5 := by unfold mTk; rw [fr0]
      refine ih (out ++ [-1]) c8 ⟨fun k j a => by rw [f8 k j (by omega)]; exact g1 k j a, by rw [f8 108 23 (by omega)]; exact g2, fun j a => by rw [fr0]; exact g3 j a, by rw [fm]; exact g4, ?_, by rw [fr1]; exact g6.2, ?_, fun b' m => g8 b' (List.mem_cons_of_mem _ m)⟩ (by rw [List.length_append]; simp; omega) (fun c' p' q' => hq c' p' (by rw [q', f8 108 13 (by omega)]; exact q5))
      · rw [e8, up2_ne2 (by decide), e7, up2_self, g5]; simp
      · rw [e8, up2_self, e7, up2_ne2 (by decide), g7, opn, if_pos (Or.inl z)]; omega
    · rw [if_neg z] at hq
      exact hq c h rfl
/-- what waits for less is done -/
def stS (s : Int) : List Int → List Int → List Int × List Int
  | [], out => ([], out)
  | b :: t, out => if b = 38 ∨ (b = 124 ∧ s ≠ 38) then stS s t (out ++ [if b = 38 then -2 else -3]) else (b :: t, out)
theorem m_settle {c0 : ct} {K : SK} {d : Nat} {Q : ct → Prop} {x f s : Int} (hf : 0 ≤ f ∧ f ≤ 5) (h0 : 100 * f ≤ c0 108 23) (hs : ir s) : ∀ (stk out : List Int) (c : ct), PS c0 c x stk out → c0 108 23 + out.length + stk.length ≤ 100 * f + 100 → (∀ c', PS c0 c' x (stS s stk out).1 (stS s stk out).2 → c' 108 13 = c 108 13 → Q c') → WV K (d + 2) mX9_settle 0 [(2, 108), (0, s)] [] c Q := by
  intro stk
  induction stk with
  | nil =>
    intro out c h hb hq
    have h5 := h.2.2.2.2.1
    refine s_X9_settle_0 s ?_
    rw [h5]
    exact ⟨⟨by simp, by simp⟩, fun _ => hq c h rfl, fun z => absurd (by simp) z⟩
  | cons b t ih =>
    intro out c h hb hq
    obtain ⟨h1, h2, h3, h4, h5, h6, h7, h8⟩ := id h
    simp only [List.length_cons] at hb h5
    have hb8 := h8 b List.mem_cons_self
    rw [stS] at hq
    have pop : (b = 38 ∨ (b = 124 ∧ s ≠ 38)) → WV K (d + 2) mX9_settle 45 [(2, 108), (0, s)] [] c Q := fun z => by
      rw [if_pos z] at hq
      refine s_X9_settle_45 s (fun c1 e1 => ?_)
      have f1 : ∀ k j, ¬ (k = 108 ∧ j = 24) → c1 k j = c k j := fun k j a => by rw [e1]; unfold up2; rw [if_neg a]
      have e24 : c1 108 24 = (t.length : Int) := by rw [e1, up2_self, h5]; omega
      have fr0 : c1 120 = c 120 := funext (fun j => f1 120 j (by omega))
      have fr1 : c1 121 = c 121 := funext (fun j => f1 121 j (by omega))
      have fm : mTk c1 = mTk c := by unfold mTk; rw [fr0]
      have p1 : PS c0 c1 x t out := by
        refine ⟨fun k j a => by rw [f1 k j (by omega)]; exact h1 k j a, by rw [f1 108 23 (by omega)]; exact h2, fun j a => by rw [fr0]; exact h3 j a, by rw [fm]; exact h4, e24, by rw [fr1]; exact h6.2, ?_, fun b' m => h8 b' (List.mem_cons_of_mem _ m)⟩
        rw [f1 108 25 (by omega), h7, opn, if_neg (by omega)]; omega
      rw [e24, fr1, h6.1]
      refine ⟨⟨by omega, by omega⟩, m_emits (d := d) p1 hf h0 (by omega) (fun c3 p3 q3 => ?_)⟩
      have tb : trT (-b) = if b = 38 then -2 else -3 := by
        rcases z with z | z
        · rw [z]; rfl
        · rw [z.1]; rfl
      rw [tb] at p3
      refine ih _ c3 p3 (by rw [List.length_append]; simp; omega) (fun c' p' q' => hq c' p' (by rw [q', q3, f1 108 13 (by omega)]))
    refine s_X9_settle_0 s ?_
    rw [h5, show ((t.length + 1 : Nat) : Int) - 1 = (t.length : Int) by omega, h6.1]
    refine ⟨⟨by omega, by omega⟩, fun z => absurd z (by omega), fun _ => ⟨⟨by omega, by omega⟩, fun z => pop (Or.inl z), fun z => ⟨⟨by omega, by omega⟩, ⟨by omega, by omega⟩, fun z2 => ⟨fun z3 => ?_, fun z3 => ⟨hs, pop (Or.inr ⟨z2, z3⟩)⟩⟩, fun z2 => ⟨⟨by omega, by omega⟩, ?_⟩⟩⟩⟩
    · rw [if_neg (by omega)] at hq; exact hq c h rfl
    · rw [if_neg (by omega)] at hq; exact hq c h rfl
