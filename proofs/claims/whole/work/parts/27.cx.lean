/-! CONTRACTS: a guest comes; the pot's way -/
theorem fre_ex {H : hf} {c G : ct} {t : Int} (hR : RT H c t G) (hn : G 0 10 < 6) : ¬ ∀ q, 0 ≤ q → q < 6 → 0 ≤ c (t + 8) q := by
  intro hall
  have hTS := hR.2.1
  have e10 := hR.2.2.1.1
  have h0 := hR.1.1.1
  have key : ∀ i : Nat, i ≤ 5 → (c (t + 8) i) < G 0 10 ∧ c (t + 3) (c (t + 8) i) = i ∧ 0 ≤ c (t + 8) i := by
    intro i hi
    have := hTS.2 i (by omega) (by omega) (hall i (by omega) (by omega))
    exact ⟨by omega, this.2, hall i (by omega) (by omega)⟩
  obtain ⟨i, j, h1, h2, h3⟩ := pig 5 (fun i => (c (t + 8) i).toNat) (fun i hi => by have := key i hi; show (c (t + 8) i).toNat < 5; omega)
  have ki := key i (by omega)
  have kj := key j h2
  have h3' : (c (t + 8) i).toNat = (c (t + 8) j).toNat := h3
  have e : c (t + 8) i = c (t + 8) j := by omega
  have := ki.2.1
  rw [e, kj.2.1] at this
  omega
theorem g_takeIn {H : hf} {G : ct} {K : SK} {d : Nat} {c : ct} {Q : ct → Int → Prop} {t k v : Int} (ht : isTab t) (hR : RT H c t G) (hZ : ZB c t) (hn : G 0 10 < 6) (hk : 0 ≤ k ∧ k < 7) (hv : 0 ≤ v ∧ v ≤ 9)
    (h : ∀ c' s, offT c c' t → fre G s → RT H c' t (tkG G k v s) → ZB c' t → Q c' (G 0 10)) : CI K (d + 5) mX6_takeIn [(2, t), (0, k), (0, v)] c Q := by
  have hR' := hR
  obtain ⟨⟨hT, hW, hS, hB⟩, hTS, ⟨e10, e11, e12, e13, e14, e15⟩, hH, hE, hU⟩ := hR
  have h0 := hT.1
  refine e_X6_takeIn t ht _ _ (s_X6_takeIn_0 t ht _ _ ?_)
  refine k_X6_freeSeat (d := d + 3) ht hT (fun s hs => ?_)
  rcases hs with hs | ⟨s0, s6, sf, sl⟩
  · exact absurd hs.2 (fre_ex hR' hn)
  have hfr : fre G s := by
    refine ⟨⟨s0, s6⟩, fun p p1 p2 q => ?_, fun q q1 q2 => ?_⟩
    · have := hTS.1 p p1 (by omega)
      rw [(hE p p1 p2).1.2.2.1, q] at this
      omega
    · obtain ⟨w1, w2⟩ := hTS.2 q q1 (by omega) (sl q q1 q2)
      refine ⟨c (t + 8) q, sl q q1 q2, by omega, ?_⟩
      rw [← (hE _ (sl q q1 q2) (by omega)).1.2.2.1]; exact w2
  refine ⟨⟨by omega, by omega⟩, fun z => absurd z (by omega), fun _ => ⟨⟨by omega, by omega⟩, fun _ => ⟨⟨by omega, by omega⟩, fun c7 e7 => ⟨⟨by omega, by omega⟩, fun c9 e9 => ?_⟩⟩, fun z => absurd s0 z⟩⟩
  refine k_X6_place (d := d + 3) ht ⟨by omega, by omega⟩ ⟨s0, s6⟩ (fun c13 e13' => ?_)
  have n1 : ∀ j, c13 (t + 1) j = if j = G 0 10 then k else c (t + 1) j := fun j => by
    subst e13'; unfold plcC; rw [up2_ne1 (by omega), up2_ne1 (by omega), up2_ne1 (by omega)]; subst e9; rw [up2_ne1 (by omega)]; subst e7; simp only [up2, true_and, e10]
  have n2 : ∀ j, c13 (t + 2) j = if j = G 0 10 then v else c (t + 2) j := fun j => by
    subst e13'; unfold plcC; rw [up2_ne1 (by omega), up2_ne1 (by omega), up2_ne1 (by omega)]; subst e9; simp only [up2, true_and, e10]; split
    · rfl
    · subst e7; exact up2_ne1 (by omega)
  have n9' : ∀ a, a ≠ t + 1 → a ≠ t + 2 → ∀ j, c9 a j = c a j := fun a a1 a2 j => by subst e9; rw [up2_ne1 a2]; subst e7; exact up2_ne1 a1
  have n3 : ∀ j, c13 (t + 3) j = if j = G 0 10 then s else c (t + 3) j := fun j => by
    subst e13'; unfold plcC; rw [up2_ne1 (by omega), up2_ne1 (by omega)]; simp only [up2, true_and, e10]; split
    · rfl
    · exact n9' _ (by omega) (by omega) j
  have n8 : ∀ j, c13 (t + 8) j = if j = s then G 0 10 else c (t + 8) j := fun j => by
    subst e13'; unfold plcC; rw [up2_ne1 (by omega)]; simp only [up2, true_and, e10]; split
    · rfl
    · rw [if_neg (by omega)]; exact n9' _ (by omega) (by omega) j
  have nz : ∀ a, a ≠ t → a ≠ t + 1 → a ≠ t + 2 → a ≠ t + 3 → a ≠ t + 8 → ∀ j, c13 a j = c a j := fun a a0 a1 a2 a3 a8 j => by
    subst e13'; unfold plcC; rw [up2_ne1 a0, up2_ne1 a8, up2_ne1 a3]; exact n9' a a1 a2 j
  have z10 : c13 t 10 = G 0 10 + 1 := by
    subst e13'; rw [up2_self]; unfold plcC; rw [up2_ne1 (by omega), up2_ne1 (by omega), n9' _ (by omega) (by omega), e10]
  have z0 : ∀ j, j ≠ 10 → c13 t j = c t j := fun j a => by
    subst e13'; rw [up2_ne2 a]; unfold plcC; rw [up2_ne1 (by omega), up2_ne1 (by omega), n9' _ (by omega) (by omega)]
  clear e13' e9 e7 n9'
  have n4 : ∀ j, c13 (t + 4) j = c (t + 4) j := nz _ (by omega) (by omega) (by omega) (by omega) (by omega)
  have n5 : ∀ j, c13 (t + 5) j = c (t + 5) j := nz _ (by omega) (by omega) (by omega) (by omega) (by omega)
  have n6 : ∀ j, c13 (t + 6) j = c (t + 6) j := nz _ (by omega) (by omega) (by omega) (by omega) (by omega)
  have n7 : ∀ j, c13 (t + 7) j = c (t + 7) j := nz _ (by omega) (by omega) (by omega) (by omega) (by omega)
  have n9 : ∀ j, c13 (t + 9) j = c (t + 9) j := nz _ (by omega) (by omega) (by omega) (by omega) (by omega)
  have z11 := z0 11 (by decide)
  have z12 := z0 12 (by decide)
  have z13 := z0 13 (by decide)
  have w10 : tkG G k v s 0 10 = G 0 10 + 1 := rfl
  have hTS' : TS c13 t := by
    refine ⟨fun p g1 g2 => ?_, fun q g1 g2 g3 => ?_⟩
    · rw [z10] at g2
      rw [n3]
      by_cases a : p = G 0 10
      · rw [if_pos a, n8, if_pos rfl]; exact a.symm
      · rw [if_neg a, n8]
        have := hTS.1 p g1 (by omega)
        have b : c (t + 3) p ≠ s := by intro b; rw [b] at this; omega
        rw [if_neg b]; exact this
    · rw [z10]
      rw [n8] at g3 ⊢
      by_cases a : q = s
      · rw [if_pos a, n3, if_pos rfl]; exact ⟨by omega, a.symm⟩
      · rw [if_neg a] at g3 ⊢
        obtain ⟨w1, w2⟩ := hTS.2 q g1 g2 g3
        rw [n3, if_neg (by omega)]
        exact ⟨by omega, w2⟩
  refine g_reckon (d := d) (G := tkG G k v s) (H := H) ht ?_ hTS' ?_ ?_ ?_ ?_ (fun c' ho hR2 => ?_)
  · obtain ⟨h1, h2, h3, h4, h5, h6, h7⟩ := hT
    refine ⟨by rw [z10]; omega, by rw [z11]; exact h2, by rw [z12]; exact h3, by rw [z13]; exact h4, fun p g1 g2 => ?_, by simp only [n7]; exact h6, by simp only [n9]; exact h7⟩
    have hp := h5 p g1 g2
    rw [n4, n5, n6]
    refine ⟨?_, ?_, ?_, hp.2.2.2.1, hp.2.2.2.2.1, hp.2.2.2.2.2.1, ?_⟩
    · rw [n1]; split
      · exact hk
      · exact hp.1
    · rw [n2]; split
      · exact hv
      · exact hp.2.1
    · rw [n3]; split
      · exact ⟨s0, s6⟩
      · exact hp.2.2.1
    · rw [n8]; split
      · omega
      · exact hp.2.2.2.2.2.2
  · rw [z10, z11, z12, z13]; exact ⟨rfl, e11, e12, e13, e14, e15⟩
  · refine HR_congr hH (fun a (h1 : hou (G 0 13) ≤ a) (h2 : a ≤ hou (G 0 13) + 3) j => ?_)
    have hh := hou_is (i := G 0 13) ⟨e14, e15⟩
    refine nz a ?_ ?_ ?_ ?_ ?_ j <;> (unfold isHou at hh; unfold isTab at ht; omega)
  · intro p g1 g2
    rw [w10] at g2
    have w : ∀ a, 1 ≤ a → a ≤ 6 → tkG G k v s a p = if p = G 0 10 then (if a = 1 then k else if a = 2 then v else if a = 3 then s else 0) else G a p := fun a a1 a2 => by
      unfold tkG; rw [if_neg (show ¬ a = 0 by omega), if_neg (show ¬ a = 7 by omega)]
      by_cases z : p = G 0 10
      · rw [if_pos ⟨⟨a1, a2⟩, z⟩, if_pos z]
      · rw [if_neg (fun q => z q.2), if_neg z]
    have w7 : ∀ j, tkG G k v s 7 j = if 4 * G 0 10 ≤ j ∧ j < 4 * G 0 10 + 4 then 0 else G 7 j := fun j => rfl
    rw [w 1 (by decide) (by decide), w 2 (by decide) (by decide), w 3 (by decide) (by decide), w 4 (by decide) (by decide), w 5 (by decide) (by decide), w 6 (by decide) (by decide), n1, n2, n3, n4, n5, n6]
    by_cases a : p = G 0 10
    · obtain ⟨q4, q5, q6, q7⟩ := hZ p (by omega) (by omega)
      simp only [if_pos a]
      refine ⟨⟨rfl, rfl, rfl, q4, q5, q6⟩, fun i i1 i2 => ?_⟩
      rw [n7, w7, if_pos (by omega)]
      exact q7 i i1 i2
    · simp only [if_neg a]
      obtain ⟨e, e7⟩ := hE p g1 (by omega)
      refine ⟨e, fun i i1 i2 => ?_⟩
      rw [n7, w7, if_neg (by omega)]
      exact e7 i i1 i2
  · simp only [z12, n4]; exact hU
  · rw [e10]
    refine h c' s (fun a b j => (ho a (by omega) (by omega) j).trans (nz a (by omega) (by omega) (by omega) (by omega) (by omega) j)) hfr hR2 (fun p p1 p2 => ?_)
    rw [ho _ (by omega) (by omega), ho _ (by omega) (by omega), ho _ (by omega) (by omega), n4, n5, n6]
    rw [hR2.2.2.1.1, w10] at p1
    obtain ⟨q4, q5, q6, q7⟩ := hZ p (by omega) p2
    refine ⟨q4, q5, q6, fun i i1 i2 => ?_⟩
    rw [ho _ (by omega) (by omega), n7]
    exact q7 i i1 i2
/-- whether a cup is empty so far behind the pot -/
def cuA (c : ct) (t k : Int) : Int := if c (t + 8) (Int.tmod (c t 11 + k) 6) < 0 then 0 else c (t + 5) (c (t + 8) (Int.tmod (c t 11 + k) 6))
def fbR (f : Int → Int) : Nat → Int → Int
  | 0, _ => 0
  | n + 1, i => if f i = 0 then fbR f n (i + 1) else 6 - i
theorem fbR_r {f : Int → Int} : ∀ (n : Nat) (i : Int), 1 ≤ i → i + n = 6 → 0 ≤ fbR f n i ∧ fbR f n i ≤ 5 := by
  intro n
  induction n with
  | zero => intro i _ _; show 0 ≤ (0 : Int) ∧ (0 : Int) ≤ 5; decide
  | succ n ih =>
    intro i h1 h2
    rw [fbR]
    split
    · exact ih (i + 1) (by omega) (by omega)
    · omega
theorem cu_01 {c : ct} {t k : Int} (hT : TR c t) (hk : 0 ≤ k) : cuA c t k = 0 ∨ cuA c t k = 1 := by
  have hp := hT.2.1
  have hm := tm_r (a := c t 11 + k) (b := 6) (by omega) (by omega)
  have h8 := (hT.2.2.2.2.1 _ hm.1 hm.2).2.2.2.2.2.2
  unfold cuA
  split
  · exact Or.inl rfl
  · exact (hT.2.2.2.2.1 _ (by omega) h8.2).2.2.2.2.1
theorem k_X6_farthestBack {K : SK} {d : Nat} {c : ct} {Q : ct → Int → Prop} {t a : Int} (ht : isTab t) (hT : TR c t) (ha : 0 ≤ a ∧ a < 6) (h : Q c (fbR (cuA c t) (5 - a).toNat (a + 1))) : CI K (d + 1) mX6_farthestBack [(2, t), (0, a)] c Q := by
  have hp := hT.2.1
  have loop : ∀ (n : Nat) (i : Int), i = 6 - n → 1 ≤ i → Q c (fbR (cuA c t) n i) → WI K (d + 1) mX6_farthestBack 4 [(2, t), (9, 0), (0, i), (9, 0)] [] c Q := by
    intro n
    induction n with
    | zero =>
      intro i hi h0 hq
      refine s_X6_farthestBack_4 t ht _ ⟨⟨by omega, by omega⟩, fun _ => hq, fun z => absurd (by omega) z⟩
    | succ n ih =>
      intro i hi h0 hq
      have hm := tm_r (a := c t 11 + i) (b := 6) (by omega) (by omega)
      have h8 := (hT.2.2.2.2.1 _ hm.1 hm.2).2.2.2.2.2.2
      rw [fbR] at hq
      refine s_X6_farthestBack_4 t ht _ ⟨⟨by omega, by omega⟩, fun z => absurd z (by omega), fun _ => ⟨⟨by omega, by omega⟩, hm, ⟨by omega, by omega⟩, fun z => ih _ (by omega) (by omega) ?_, fun z => ⟨⟨by omega, h8.2⟩, fun z2 => ih _ (by omega) (by omega) ?_, fun z2 => ⟨?_, ?_⟩⟩⟩⟩
      · have e : cuA c t i = 0 := by unfold cuA; exact if_pos z
        rw [if_pos e] at hq; exact hq
      · have e : cuA c t i = 0 := by unfold cuA; rw [if_neg z]; exact z2
        rw [if_pos e] at hq; exact hq
      · rcases (hT.2.2.2.2.1 _ (by omega) h8.2).2.2.2.2.1 with e | e <;> rw [e] <;> exact ⟨by omega, by omega⟩
      · have e : ¬ cuA c t i = 0 := by unfold cuA; rw [if_neg z]; exact z2
        rw [if_neg e] at hq; exact hq
  exact e_X6_farthestBack t ht _ (s_X6_farthestBack_0 t ht _ (loop (5 - a).toNat (a + 1) (by omega) (by omega) h))
def onR (f : Int → Int) : Nat → Int → Int → Int
  | 0, a, _ => a
  | n + 1, a, i => let s := if fbR f (5 - i).toNat (i + 1) = 0 then i else i + i + fbR f (5 - i).toNat (i + 1)
    onR f n (if a = 0 then s else if s < a then s else a) (i + 1)
def onF (f : Int → Int) : Int := if fbR f 5 1 = 0 then 0 else onR f 5 0 1
theorem k_X6_stepsOn {K : SK} {d : Nat} {c : ct} {Q : ct → Int → Prop} {t : Int} (ht : isTab t) (hT : TR c t) (h : Q c (onF (cuA c t))) : CI K (d + 2) mX6_stepsOn [(2, t)] c Q := by
  have loop : ∀ (n : Nat) (i a : Int), i = 6 - n → 1 ≤ i → 0 ≤ a ∧ a ≤ 100 → Q c (if fbR (cuA c t) 5 1 = 0 then 0 else onR (cuA c t) n a i) → WI K (d + 2) mX6_stepsOn 4 [(2, t), (0, a), (0, i), (9, 0), (9, 0)] [] c Q := by
    intro n
    induction n with
    | zero =>
      intro i a hi h0 ha hq
      have hb := fbR_r (f := cuA c t) 5 1 (by omega) (by omega)
      refine s_X6_stepsOn_4 t ht _ _ ⟨⟨by omega, by omega⟩, fun _ => k_X6_farthestBack ht hT ⟨by decide, by decide⟩ ?_, fun z => absurd (by omega) z⟩
      refine ⟨fun z => ?_, fun z => ⟨⟨?_, ?_⟩, ?_⟩⟩
      · have z' : fbR (cuA c t) 5 1 = 0 := z
        rw [if_pos z'] at hq; exact hq
      · exact Int.le_trans (by decide) hb.1
      · exact Int.le_trans hb.2 (by decide)
      · have z' : ¬ fbR (cuA c t) 5 1 = 0 := z
        rw [if_neg z'] at hq; exact hq
    | succ n ih =>
      intro i a hi h0 ha hq
      have hb := fbR_r (f := cuA c t) (5 - i).toNat (i + 1) (by omega) (by omega)
      rw [onR] at hq
      refine s_X6_stepsOn_4 t ht _ _ ⟨⟨by omega, by omega⟩, fun z => absurd z (by omega), fun _ => k_X6_farthestBack ht hT ⟨by omega, by omega⟩ ?_⟩
      refine ⟨fun z => ⟨fun z2 => ih _ _ (by omega) (by omega) (by omega) ?_, fun z2 => ⟨⟨by omega, by omega⟩, ⟨⟨by omega, by omega⟩, ⟨by omega, by omega⟩⟩, ih _ _ (by omega) (by omega) (by split <;> omega) ?_⟩⟩, fun z => ⟨⟨by omega, by omega⟩, fun z2 => ih _ _ (by omega) (by omega) (by omega) ?_, fun z2 => ⟨⟨by omega, by omega⟩, ⟨⟨by omega, by omega⟩, ⟨by omega, by omega⟩⟩, ih _ _ (by omega) (by omega) (by split <;> omega) ?_⟩⟩⟩
      · simp only [if_pos z, if_pos z2] at hq; exact hq
      · simp only [if_pos z, if_neg z2] at hq; exact hq
      · simp only [if_neg z, if_pos z2] at hq; exact hq
      · simp only [if_neg z, if_neg z2] at hq; exact hq
  exact e_X6_stepsOn t ht (s_X6_stepsOn_0 t ht (loop 5 1 0 (by decide) (by decide) ⟨by decide, by decide⟩ h))
def baR (f : Int → Int) : Nat → Int → Int → Int
  | 0, a, _ => a
  | n + 1, a, i => let b := fbR f (5 - i).toNat (i + 1)
    baR f n (if b ≤ 0 then a else if b + b + i < a then b + b + i else a) (i + 1)
def baF (f : Int → Int) : Int := baR f 5 (fbR f 5 1) 1
theorem k_X6_stepsBack {K : SK} {d : Nat} {c : ct} {Q : ct → Int → Prop} {t : Int} (ht : isTab t) (hT : TR c t) (h : Q c (baF (cuA c t))) : CI K (d + 2) mX6_stepsBack [(2, t)] c Q := by
  have loop : ∀ (n : Nat) (i a : Int), i = 6 - n → 1 ≤ i → 0 ≤ a ∧ a ≤ 100 → Q c (baR (cuA c t) n a i) → WI K (d + 2) mX6_stepsBack 8 [(2, t), (0, a), (0, i), (9, 0)] [] c Q := by
    intro n
    induction n with
    | zero =>
      intro i a hi h0 ha hq
      exact s_X6_stepsBack_8 t ht _ _ ⟨⟨by omega, by omega⟩, fun _ => hq, fun z => absurd (by omega) z⟩
    | succ n ih =>
      intro i a hi h0 ha hq
      have hb := fbR_r (f := cuA c t) (5 - i).toNat (i + 1) (by omega) (by omega)
      rw [baR] at hq
      refine s_X6_stepsBack_8 t ht _ _ ⟨⟨by omega, by omega⟩, fun z => absurd z (by omega), fun _ => k_X6_farthestBack ht hT ⟨by omega, by omega⟩ ?_⟩
      refine ⟨⟨by omega, by omega⟩, fun z => ih _ _ (by omega) (by omega) (by omega) ?_, fun z => ⟨⟨⟨by omega, by omega⟩, ⟨by omega, by omega⟩⟩, ih _ _ (by omega) (by omega) (by split <;> omega) ?_⟩⟩
      · simp only [if_pos z] at hq; exact hq
      · simp only [if_neg z] at hq; exact hq
  have hb := fbR_r (f := cuA c t) 5 1 (by omega) (by omega)
  refine e_X6_stepsBack t ht (s_X6_stepsBack_0 t ht (k_X6_farthestBack ht hT ⟨by decide, by decide⟩ ?_))
  exact loop 5 1 _ (by decide) (by decide) ⟨hb.1, Int.le_trans hb.2 (by decide)⟩ h
def roF (f : Int → Int) : Int := if baF f < onF f then baF f else onF f
