/-! CONTRACTS: years, at a table of the class -/
/-- a year doesn't matter to a house that asks for none -/
theorem evL_noY {T F F' : Int → Int} (h : ∀ j, 0 ≤ j → j < 5 → F j = F' j) : ∀ (n : Nat) (i : Int) (d : Nat) (l : List Int), wfT T n i d → (∀ j, i ≤ j → j < i + n → T j < 327680) → evL T F n i l = evL T F' n i l
  | 0, _, _, _, _, _ => rfl
  | n + 1, i, d, l, hw, ht => by
    simp only [evL]
    have e := ht i (by omega) (by omega)
    have ht2 : ∀ j, i + 1 ≤ j → j < i + 1 + n → T j < 327680 := fun j h1 h2 => ht j (by omega) (by omega)
    rcases hw with ⟨a, -, hw⟩ | ⟨a, -, hw⟩ | ⟨a, -, hw⟩
    · rw [a, show stepL F (-1) l = stepL F' (-1) l from rfl]; exact evL_noY h n (i + 1) _ _ hw ht2
    · have : stepL F (T i) l = stepL F' (T i) l := by rcases a with a | a <;> rw [a] <;> rfl
      rw [this]; exact evL_noY h n (i + 1) _ _ hw ht2
    · have : stepL F (T i) l = stepL F' (T i) l := by
        obtain ⟨f, s, k, hf, hs, hk, ex⟩ := a
        have e1 : T i / 65536 = f := by omega
        unfold stepL soS
        rw [e1, h f (by omega) (by omega)]
      rw [this]; exact evL_noY h n (i + 1) _ _ hw ht2
theorem likA_noY {c : ct} {h : Int} {F F' : Int → Int} (hW : WFH c h) (h7 : c h 7 = 0) (hF : ∀ j, 0 ≤ j → j < 5 → F j = F' j) : likA c h F = likA c h F' := by
  unfold likA
  congr 1
  refine smR_congr _ _ (fun w g1 g2 => ?_)
  have h1 := hW.1
  obtain ⟨hfr, -, hw⟩ := hW.2.2.2.2.2 w g1 (by omega)
  unfold wtA
  rw [evL_noY hF _ _ _ _ hw (fun j a1 a2 => hW.2.2.2.2.1.2 h7 j (by omega) (by omega))]
def fctY (c : ct) (t Y p q : Int) : Int → Int := fun j => if j = 0 then p else if j = 1 then q else if j = 2 then c (t + 1) p else if j = 3 then c (t + 1) q else if j = 4 then c (t + 2) p else Int.tmod Y 10
/-- what p likes q in a year -/
def lkY (c : ct) (t Y p q : Int) : Int := likA c (c t 13) (fctY c t Y p q)
theorem lkY_now {c : ct} {t p q : Int} : lkY c t (c t 12) p q = lkA c t p q := rfl
theorem lkY_noY {c : ct} {t Y Y' p q : Int} (hW : WFH c (c t 13)) (h7 : c (c t 13) 7 = 0) : lkY c t Y p q = lkY c t Y' p q := by
  refine likA_noY hW h7 (fun j g1 g2 => ?_)
  have : j = 0 ∨ j = 1 ∨ j = 2 ∨ j = 3 ∨ j = 4 := by omega
  rcases this with rfl | rfl | rfl | rfl | rfl <;> rfl
def wrmL (c : ct) (t Y g s : Int) : Int := if nbA c t s < 0 then 0 else lkY c t Y g (nbA c t s) - sis1 (c (t + 1) g) * sis1 (c (t + 1) (nbA c t s)) * c (t + 2) g
def sumL (c : ct) (t Y g : Int) : Int := wrmL c t Y g (aft (c (t + 3) g)) + wrmL c t Y g (ahd (c (t + 3) g))
/-- how fond g is in a year -/
def fondL (c : ct) (t Y g : Int) : Int :=
  if ¬ c (t + 6) g = 0 then 0 else if c (t + 1) g = 5 ∧ ¬ Int.tmod Y 2 = 0 then 0 else if c (t + 1) g = 4 then c (t + 2) g
  else if c (t + 1) g = 1 then Int.tdiv (sumL c t Y g) 2
  else if c (t + 1) g = 2 ∨ c (t + 1) g = 5 then (if c (t + 3) g = 0 then sumL c t Y g + c (c t 13) 6 else sumL c t Y g)
  else if c (t + 1) g = 6 then sumL c t Y g + c (t + 7) (g * 4 + Int.tmod (c (t + 3) g) 4) else sumL c t Y g
/-- the bonds are what each likes the other now -/
def BD (c : ct) (t : Int) : Prop := ∀ p q, 0 ≤ p → p < c t 10 → 0 ≤ q → q < c t 10 → c (t + 9) (p * 6 + q) = lkA c t p q
/-- who sits is a guest that is there -/
def SIT (c : ct) (t : Int) : Prop := ∀ s, 0 ≤ s → s < 6 → c (t + 8) s < c t 10
theorem nbA_lt {c : ct} {t s : Int} (hT : TR c t) (hS : SIT c t) (hs : 0 ≤ s ∧ s < 6) : nbA c t s < c t 10 := by
  have h1 := hS s hs.1 hs.2
  have h2 := hT.1
  have h3 := (hT.2.2.2.2.1 s hs.1 hs.2).2.2.2.2.2.2
  unfold nbA
  split
  · omega
  · split
    · split <;> omega
    · omega
theorem fond_AL {c : ct} {t g : Int} (hT : TR c t) (hS : SIT c t) (hB : BD c t) (hg : 0 ≤ g ∧ g < c t 10) : fondA c t g = fondL c t (c t 12) g := by
  have hn := hT.1
  have h2 := (hT.2.2.2.2.1 g hg.1 (by omega)).2.2.1
  have key : ∀ s, 0 ≤ s ∧ s < 6 → wrmA c t g s = wrmL c t (c t 12) g s := by
    intro s hs
    unfold wrmA wrmL
    have h3 := nbA_lt hT hS hs
    split
    · rfl
    · rw [hB g _ hg.1 hg.2 (by omega) h3]; rfl
  have e : sumA c t g = sumL c t (c t 12) g := by unfold sumA sumL; rw [key _ (aft_r h2), key _ (ahd_r h2)]
  unfold fondA fondL
  rw [e]
/-- nothing changed but the year, used, empty, and the rows 9 and 10 -/
def offYr (c c' : ct) (t : Int) : Prop := (∀ k, k ≠ t → k ≠ t + 4 → k ≠ t + 5 → k ≠ t + 9 → k ≠ t + 10 → ∀ j, c' k j = c k j) ∧ ∀ j, j ≠ 12 → c' t j = c t j
theorem offYr.hou {c c' : ct} {t : Int} (ht : isTab t) (hh : isHou (c t 13)) (ho : offYr c c' t) : ∀ k, c t 13 ≤ k → k ≤ c t 13 + 3 → ∀ j, c' k j = c k j := by
  intro k h1 h2 j
  obtain ⟨a1, a2, a3, a4, a5, a6, a7, a8, -⟩ := hou_far hh ht h1 h2
  exact ho.1 k a3 a7 a8 a1 a2 j
theorem nbA_off {c c' : ct} {t s : Int} (ho : offYr c c' t) : nbA c' t s = nbA c t s := by
  have e1 : ∀ j, c' (t + 1) j = c (t + 1) j := ho.1 _ (by omega) (by omega) (by omega) (by omega) (by omega)
  have e6 : ∀ j, c' (t + 6) j = c (t + 6) j := ho.1 _ (by omega) (by omega) (by omega) (by omega) (by omega)
  have e8 : ∀ j, c' (t + 8) j = c (t + 8) j := ho.1 _ (by omega) (by omega) (by omega) (by omega) (by omega)
  unfold nbA
  rw [e8, e6, e1]
theorem lkY_off {c c' : ct} {t Y p q : Int} (ht : isTab t) (hh : isHou (c t 13)) (hW : WFH c (c t 13)) (ho : offYr c c' t) : lkY c' t Y p q = lkY c t Y p q := by
  have e1 : ∀ j, c' (t + 1) j = c (t + 1) j := ho.1 _ (by omega) (by omega) (by omega) (by omega) (by omega)
  have e2 : ∀ j, c' (t + 2) j = c (t + 2) j := ho.1 _ (by omega) (by omega) (by omega) (by omega) (by omega)
  have ef : fctY c' t Y p q = fctY c t Y p q := by funext j; simp only [fctY, e1, e2]
  unfold lkY
  rw [ho.2 13 (by omega), ef]
  exact (likA_congr hW (fun _ _ _ => rfl) (ho.hou ht hh)).symm
theorem fondL_off {c c' : ct} {t Y g : Int} (ht : isTab t) (hh : isHou (c t 13)) (hW : WFH c (c t 13)) (ho : offYr c c' t) : fondL c' t Y g = fondL c t Y g := by
  have e1 : ∀ j, c' (t + 1) j = c (t + 1) j := ho.1 _ (by omega) (by omega) (by omega) (by omega) (by omega)
  have e2 : ∀ j, c' (t + 2) j = c (t + 2) j := ho.1 _ (by omega) (by omega) (by omega) (by omega) (by omega)
  have e3 : ∀ j, c' (t + 3) j = c (t + 3) j := ho.1 _ (by omega) (by omega) (by omega) (by omega) (by omega)
  have e6 : ∀ j, c' (t + 6) j = c (t + 6) j := ho.1 _ (by omega) (by omega) (by omega) (by omega) (by omega)
  have e7 : ∀ j, c' (t + 7) j = c (t + 7) j := ho.1 _ (by omega) (by omega) (by omega) (by omega) (by omega)
  have ew : c' (c t 13) 6 = c (c t 13) 6 := ho.hou ht hh _ (by omega) (by omega) 6
  have es : sumL c' t Y g = sumL c t Y g := by
    unfold sumL wrmL
    simp only [nbA_off ho, e1, e2, e3, lkY_off ht hh hW ho]
  unfold fondL
  rw [es, e1, e2, e3, e6, e7, ho.2 13 (by omega), ew]
/-- whether a cup is empty behind so many years, and how often more it was emptied; f: how fond in a year -/
def goesY (f : Int → Int) (th g : Int) (Y e : Int) : Int := if g = 0 ∧ e = 0 ∧ th ≤ f Y then 1 else 0
def yE (f : Int → Int) (th g : Int) : Nat → Int → Int → Int
  | 0, _, e => e
  | m + 1, Y, e => yE f th g m (Y + 1) (e + goesY f th g Y e)
def yU (f : Int → Int) (th g : Int) : Nat → Int → Int → Int → Int
  | 0, _, _, u => u
  | m + 1, Y, e, u => yU f th g m (Y + 1) (e + goesY f th g Y e) (u + goesY f th g Y e)
theorem goesY_01 {f : Int → Int} {th g Y e : Int} (he : e = 0 ∨ e = 1) : (goesY f th g Y e = 0 ∨ goesY f th g Y e = 1) ∧ (e + goesY f th g Y e = 0 ∨ e + goesY f th g Y e = 1) := by
  unfold goesY
  split <;> omega
theorem yE_01 {f : Int → Int} {th g : Int} : ∀ (m : Nat) (Y e : Int), (e = 0 ∨ e = 1) → yE f th g m Y e = 0 ∨ yE f th g m Y e = 1
  | 0, _, _, h => h
  | m + 1, Y, e, h => yE_01 m (Y + 1) _ (goesY_01 h).2
theorem yU_bd {f : Int → Int} {th g : Int} : ∀ (m : Nat) (Y e u : Int), (e = 0 ∨ e = 1) → u ≤ yU f th g m Y e u ∧ yU f th g m Y e u ≤ u + m
  | 0, _, _, u, _ => by simp [yU]
  | m + 1, Y, e, u, h => by
    have h1 := yU_bd (f := f) (th := th) (g := g) m (Y + 1) _ (u + goesY f th g Y e) (goesY_01 (f := f) (th := th) (g := g) (Y := Y) h).2
    have h2 := (goesY_01 (f := f) (th := th) (g := g) (Y := Y) h).1
    simp only [yU]
    omega
theorem TR_up5 {c : ct} {t p v : Int} (hT : TR c t) (hv : v = 0 ∨ v = 1) : TR (up2 c (t + 5) p v) t := by
  obtain ⟨h1, h2, h3, h4, h5, h6, h7⟩ := hT
  have n0 : ¬ t = t + 5 := by omega
  have n1 : ¬ t + 1 = t + 5 := by omega
  have n2 : ¬ t + 2 = t + 5 := by omega
  have n3 : ¬ t + 3 = t + 5 := by omega
  have n4 : ¬ t + 4 = t + 5 := by omega
  have n6 : ¬ t + 6 = t + 5 := by omega
  have n7 : ¬ t + 7 = t + 5 := by omega
  have n8 : ¬ t + 8 = t + 5 := by omega
  have n9 : ¬ t + 9 = t + 5 := by omega
  refine ⟨?_, ?_, ?_, ?_, fun q g1 g2 => ?_, fun i g1 g2 => ?_, fun i g1 g2 => ?_⟩ <;> simp only [up2, n0, n1, n2, n3, n4, n6, n7, n8, n9, false_and, if_false, true_and]
  · exact h1
  · exact h2
  · exact h3
  · exact h4
  · obtain ⟨a1, a2, a3, a4, a5, a6, a7⟩ := h5 q g1 g2
    refine ⟨a1, a2, a3, a4, ?_, a6, a7⟩
    split
    · exact hv
    · exact a5
  · exact h6 i g1 g2
  · exact h7 i g1 g2
theorem TR_up4 {c : ct} {t p v : Int} (hT : TR c t) (hv : 0 ≤ v ∧ v ≤ 20000) : TR (up2 c (t + 4) p v) t := by
  obtain ⟨h1, h2, h3, h4, h5, h6, h7⟩ := hT
  have n0 : ¬ t = t + 4 := by omega
  have n1 : ¬ t + 1 = t + 4 := by omega
  have n2 : ¬ t + 2 = t + 4 := by omega
  have n3 : ¬ t + 3 = t + 4 := by omega
  have n4 : ¬ t + 5 = t + 4 := by omega
  have n6 : ¬ t + 6 = t + 4 := by omega
  have n7 : ¬ t + 7 = t + 4 := by omega
  have n8 : ¬ t + 8 = t + 4 := by omega
  have n9 : ¬ t + 9 = t + 4 := by omega
  refine ⟨?_, ?_, ?_, ?_, fun q g1 g2 => ?_, fun i g1 g2 => ?_, fun i g1 g2 => ?_⟩ <;> simp only [up2, n0, n1, n2, n3, n4, n6, n7, n8, n9, false_and, if_false, true_and]
  · exact h1
  · exact h2
  · exact h3
  · exact h4
  · obtain ⟨a1, a2, a3, a4, a5, a6, a7⟩ := h5 q g1 g2
    refine ⟨a1, a2, a3, ?_, a5, a6, a7⟩
    split
    · exact hv
    · exact a4
  · exact h6 i g1 g2
  · exact h7 i g1 g2
theorem TR_yr {c : ct} {t v : Int} (hT : TR c t) (hv : 0 ≤ v ∧ v ≤ 20000) : TR (up2 c t 12 v) t := by
  obtain ⟨h1, h2, h3, h4, h5, h6, h7⟩ := hT
  have nn : ∀ j : Int, 1 ≤ j → ¬ t + j = t := fun j hj => by omega
  refine ⟨?_, ?_, ?_, ?_, fun q g1 g2 => ?_, fun i g1 g2 => ?_, fun i g1 g2 => ?_⟩ <;> simp [up2, nn 1 (by omega), nn 2 (by omega), nn 3 (by omega), nn 4 (by omega), nn 5 (by omega), nn 6 (by omega), nn 7 (by omega), nn 8 (by omega), nn 9 (by omega)]
  · exact h1
  · exact h2
  · exact hv
  · exact h4
  · exact h5 q g1 g2
  · exact h6 i g1 g2
  · exact h7 i g1 g2
/-- rows 9 and 10 changed, bonds small -/
theorem TR_910 {c c' : ct} {t : Int} (hT : TR c t) (ho : off910 c c' t) (h9 : ∀ i, 0 ≤ i → i < 36 → -1000 ≤ c' (t + 9) i ∧ c' (t + 9) i ≤ 1000) : TR c' t := by
  obtain ⟨h1, h2, h3, h4, h5, h6, h7⟩ := hT
  have e : ∀ j : Int, 0 ≤ j → j < 9 → ∀ i, c' (t + j) i = c (t + j) i := fun j g1 g2 i => ho _ (by omega) (by omega) i
  have e0 : ∀ i, c' t i = c t i := fun i => ho _ (by omega) (by omega) i
  refine ⟨by rw [e0]; exact h1, by rw [e0]; exact h2, by rw [e0]; exact h3, by rw [e0]; exact h4, fun q g1 g2 => ?_, fun i g1 g2 => ?_, h9⟩
  · rw [e 1 (by omega) (by omega), e 2 (by omega) (by omega), e 3 (by omega) (by omega), e 4 (by omega) (by omega), e 5 (by omega) (by omega), e 6 (by omega) (by omega), e 8 (by omega) (by omega)]
    exact h5 q g1 g2
  · rw [e 7 (by omega) (by omega)]; exact h6 i g1 g2
def TI (c : ct) (t : Int) : Prop := TR c t ∧ WFH c (c t 13) ∧ SIT c t ∧ BD c t
/-- behind m years -/
def YRS (c c' : ct) (t : Int) (m : Nat) : Prop := offYr c c' t ∧ c' t 12 = c t 12 + m ∧ TI c' t ∧
  (∀ p, 0 ≤ p → p < c t 10 → c' (t + 5) p = yE (fun Y => fondL c t Y p) (c (c t 13) 5) (c (t + 6) p) m (c t 12) (c (t + 5) p) ∧ c' (t + 4) p = yU (fun Y => fondL c t Y p) (c (c t 13) 5) (c (t + 6) p) m (c t 12) (c (t + 5) p) (c (t + 4) p)) ∧
  ∀ p, ¬ (0 ≤ p ∧ p < c t 10) → c' (t + 5) p = c (t + 5) p ∧ c' (t + 4) p = c (t + 4) p
theorem offYr.trans {c c1 c2 : ct} {t : Int} (h1 : offYr c c1 t) (h2 : offYr c1 c2 t) : offYr c c2 t :=
  ⟨fun k a1 a2 a3 a4 a5 j => (h2.1 k a1 a2 a3 a4 a5 j).trans (h1.1 k a1 a2 a3 a4 a5 j), fun j a => (h2.2 j a).trans (h1.2 j a)⟩
theorem offYr.rf {c : ct} {t : Int} : offYr c c t := ⟨fun _ _ _ _ _ _ _ => rfl, fun _ _ => rfl⟩
theorem off910.yr {c c' : ct} {t : Int} (h : off910 c c' t) : offYr c c' t := ⟨fun k _ _ _ a4 a5 j => h k a4 a5 j, fun j _ => h t (by omega) (by omega) j⟩
def off45 (c c' : ct) (t : Int) : Prop := ∀ k, k ≠ t + 4 → k ≠ t + 5 → ∀ j, c' k j = c k j
theorem off45.yr {c c' : ct} {t : Int} (h : off45 c c' t) : offYr c c' t := ⟨fun k _ a2 a3 _ _ j => h k a2 a3 j, fun j _ => h t (by omega) (by omega) j⟩
theorem BD_45 {c c' : ct} {t : Int} (ht : isTab t) (hh : isHou (c t 13)) (hW : WFH c (c t 13)) (hB : BD c t) (ho : off45 c c' t) : BD c' t := by
  intro p q a1 a2 a3 a4
  have e10 : c' t 10 = c t 10 := ho t (by omega) (by omega) 10
  rw [e10] at a2 a4
  rw [ho (t + 9) (by omega) (by omega), hB p q a1 a2 a3 a4, ← lkY_now, ← lkY_now, show c' t 12 = c t 12 from ho t (by omega) (by omega) 12]
  exact (lkY_off ht hh hW ho.yr).symm
theorem WFH_yr {c c' : ct} {t : Int} (ht : isTab t) (hh : isHou (c t 13)) (hW : WFH c (c t 13)) (ho : offYr c c' t) : WFH c' (c' t 13) := by
  rw [ho.2 13 (by omega)]
  exact WFH_congr hW (ho.hou ht hh)
theorem SIT_yr {c c' : ct} {t : Int} (hS : SIT c t) (ho : offYr c c' t) : SIT c' t := by
  intro s h1 h2
  rw [ho.1 (t + 8) (by omega) (by omega) (by omega) (by omega) (by omega), ho.2 10 (by omega)]
  exact hS s h1 h2
set_option maxHeartbeats 2000000 in
theorem k_X6_yearsGo {K : SK} {d : Nat} {c : ct} {Q : ct → Prop} {t m : Int} (ht : isTab t) (hT : TI c t) (hm : 0 ≤ m ∧ m ≤ 100) (hyr : c t 12 + m ≤ 20000) (hus : ∀ p, 0 ≤ p → p < 6 → c (t + 4) p + m ≤ 20000) (h : ∀ c', YRS c c' t m.toNat → Q c') : CV K (d + 5) mX6_yearsGo [(2, t), (0, m)] c Q := by
  have loop : ∀ (n : Nat) (i : Int) (c1 : ct), i = m - n → 0 ≤ i → offYr c c1 t → TI c1 t → c1 t 12 = c t 12 + i → (∀ p, 0 ≤ p → p < 6 → c1 (t + 4) p + n ≤ 20000) → (∀ c', YRS c1 c' t n → Q c') → WV K (d + 5) mX6_yearsGo 2 [(2, t), (0, m), (0, i), (9, 0)] [] c1 Q := by
    intro n
    induction n with
    | zero =>
      intro i c1 hi h0 ho hT1 hy hu hq
      refine s_X6_yearsGo_2 t ht _ _ ⟨⟨⟨by omega, by omega⟩, ⟨by omega, by omega⟩⟩, fun _ => hq c1 ⟨offYr.rf, by simp, hT1, fun p _ _ => ⟨rfl, rfl⟩, fun p _ => ⟨rfl, rfl⟩⟩, fun z => absurd (by omega) z⟩
    | succ n ih =>
      intro i c1 hi h0 ho hT1 hy hu hq
      refine s_X6_yearsGo_2 t ht _ _ ⟨⟨⟨by omega, by omega⟩, ⟨by omega, by omega⟩⟩, fun z => absurd z (by omega), fun _ => ?_⟩
      obtain ⟨hTR, hW, hS, hB⟩ := id hT1
      have hn := hTR.1
      have hh := hTR.2.2.2.1
      -- the guests, one by one
      have inner : ∀ (k : Nat) (p : Int) (c2 : ct), p = c1 t 10 - k → 0 ≤ p → off45 c1 c2 t → TR c2 t → (∀ q, 0 ≤ q → q < p → c2 (t + 5) q = c1 (t + 5) q + goesY (fun Y => fondL c1 t Y q) (c1 (c1 t 13) 5) (c1 (t + 6) q) (c1 t 12) (c1 (t + 5) q) ∧ c2 (t + 4) q = c1 (t + 4) q + goesY (fun Y => fondL c1 t Y q) (c1 (c1 t 13) 5) (c1 (t + 6) q) (c1 t 12) (c1 (t + 5) q)) →
          (∀ q, ¬ (0 ≤ q ∧ q < p) → c2 (t + 5) q = c1 (t + 5) q ∧ c2 (t + 4) q = c1 (t + 4) q) → WV K (d + 5) mX6_yearsGo 9 [(2, t), (0, m), (0, i), (0, p)] [] c2 Q := by
        intro k
        induction k with
        | zero =>
          intro p c2 hp hp0 ho2 hT2 hd hk
          have e10 : c2 t 10 = c1 t 10 := ho2 t (by omega) (by omega) 10
          have e12 : c2 t 12 = c1 t 12 := ho2 t (by omega) (by omega) 12
          have e13 : c2 t 13 = c1 t 13 := ho2 t (by omega) (by omega) 13
          have hoy2 := ho2.yr
          refine s_X6_yearsGo_9 t ht _ _ _ ?_
          rw [e10]
          refine ⟨⟨⟨by omega, by omega⟩, ⟨by omega, by omega⟩⟩, fun _ c3 e3 => ?_, fun z => absurd (by omega) z⟩
          have h12 : c3 t 12 = c1 t 12 + 1 := by subst e3; simp [up2, e12]
          have h3o : ∀ k, k ≠ t → ∀ j, c3 k j = c2 k j := fun k a j => by subst e3; simp [up2, a]
          have h3t : ∀ j, j ≠ 12 → c3 t j = c2 t j := fun j a => by subst e3; simp [up2, a]
          have hoy3 : offYr c1 c3 t := ⟨fun k a1 a2 a3 a4 a5 j => (h3o k a1 j).trans (ho2 k a2 a3 j), fun j a => (h3t j a).trans (ho2 t (by omega) (by omega) j)⟩
          have f13 : c3 t 13 = c1 t 13 := hoy3.2 13 (by omega)
          have hT3 : TR c3 t := by rw [e3]; exact TR_yr hT2 (by have := hTR.2.2.1; omega)
          have hW3 : WFH c3 (c3 t 13) := WFH_yr ht hh hW hoy3
          have hS3 : SIT c3 t := SIT_yr hS hoy3
          have h7 := hW3.2.2.2.1
          have f4 : ∀ p, c3 (t + 4) p = c2 (t + 4) p := h3o _ (by omega)
          have f5 : ∀ p, c3 (t + 5) p = c2 (t + 5) p := h3o _ (by omega)
          -- what is left, from a heap c4 that differs from c3 in rows 9 and 10 alone
          have fin : ∀ c4, off910 c3 c4 t → TR c4 t → BD c4 t → WV K (d + 5) mX6_yearsGo 2 [(2, t), (0, m), (0, i + 1), (9, 0)] [] c4 Q := by
            intro c4 ho4 hT4 hB4
            have hoy4 : offYr c1 c4 t := hoy3.trans ho4.yr
            have g12 : c4 t 12 = c1 t 12 + 1 := (ho4 t (by omega) (by omega) 12).trans h12
            have g10 : c4 t 10 = c1 t 10 := hoy4.2 10 (by omega)
            have g13 : c4 t 13 = c1 t 13 := hoy4.2 13 (by omega)
            have gth : c4 (c4 t 13) 5 = c1 (c1 t 13) 5 := by rw [g13]; exact hoy4.hou ht hh _ (by omega) (by omega) 5
            have g4 : ∀ p, c4 (t + 4) p = c2 (t + 4) p := fun p => (ho4 _ (by omega) (by omega) p).trans (f4 p)
            have g5 : ∀ p, c4 (t + 5) p = c2 (t + 5) p := fun p => (ho4 _ (by omega) (by omega) p).trans (f5 p)
            have g6 : ∀ p, c4 (t + 6) p = c1 (t + 6) p := fun p => hoy4.1 _ (by omega) (by omega) (by omega) (by omega) (by omega) p
            have hT4' : TI c4 t := ⟨hT4, WFH_yr ht hh hW hoy4, SIT_yr hS hoy4, hB4⟩
            refine ih (i + 1) c4 (by omega) (by omega) (ho.trans hoy4) hT4' (by omega) ?_ ?_
            · intro q a1 a2
              rw [g4]
              have hu' := hu q a1 a2
              by_cases hq : q < p
              · rw [(hd q a1 hq).2]
                have := (goesY_01 (f := fun Y => fondL c1 t Y q) (th := c1 (c1 t 13) 5) (g := c1 (t + 6) q) (Y := c1 t 12) ((hTR.2.2.2.2.1 q a1 a2).2.2.2.2.1)).1
                omega
              · rw [(hk q (by omega)).2]; omega
            · intro c' hy'
              obtain ⟨b1, b2, b3, b4, b5⟩ := hy'
              refine hq c' ⟨hoy4.trans b1, by omega, b3, fun q a1 a2 => ?_, fun q a => ?_⟩
              · have hq := hd q a1 (by omega)
                obtain ⟨z1, z2⟩ := b4 q a1 (by omega)
                have ef : (fun Y => fondL c4 t Y q) = fun Y => fondL c1 t Y q := funext fun Y => fondL_off ht hh hW hoy4
                rw [z1, z2, ef, gth, g6, g12, g5, g4, hq.1, hq.2]
                exact ⟨rfl, rfl⟩
              · obtain ⟨z1, z2⟩ := b5 q (by omega)
                rw [z1, z2, g5, g4]
                exact hk q (by omega)
          refine ⟨by rw [f13]; exact hh, fun z => ?_, fun z => ⟨by rcases h7 with e | e <;> rw [e] <;> exact ⟨by omega, by omega⟩, ?_⟩⟩
          · refine fin c3 (fun _ _ _ _ => rfl) hT3 (fun a b a1 a2 a3 a4 => ?_)
            rw [hoy3.2 10 (by omega)] at a2 a4
            rw [h3o _ (by omega), ho2 _ (by omega) (by omega), hB a b a1 a2 a3 a4, ← lkY_now, ← lkY_now (c := c3), ← lkY_off ht hh hW hoy3]
            exact lkY_noY hW3 z
          · refine k_X6_reckon ht hT3 hW3 (fun c4 a1 a2 a3 => fin c4 a1 (TR_910 hT3 a1 a3) (fun a b b1 b2 b3 b4 => ?_))
            rw [a1 t (by omega) (by omega)] at b2 b4
            rw [a2 a b b1 b2 b3 b4]
            exact (lkA_congr ht (by rw [f13]; exact hh) hW3 a1).symm
        | succ k ihk =>
          intro p c2 hp hp0 ho2 hT2 hd hk
          have e10 : c2 t 10 = c1 t 10 := ho2 t (by omega) (by omega) 10
          have e12 : c2 t 12 = c1 t 12 := ho2 t (by omega) (by omega) 12
          have e13 : c2 t 13 = c1 t 13 := ho2 t (by omega) (by omega) 13
          have e6 : ∀ q, c2 (t + 6) q = c1 (t + 6) q := fun q => ho2 _ (by omega) (by omega) q
          have hp6 : 0 ≤ p ∧ p < 6 := ⟨hp0, by omega⟩
          have hkp := hk p (by omega)
          have hrp := hT2.2.2.2.2.1 p hp0 hp6.2
          have hth : c2 (c1 t 13) 5 = c1 (c1 t 13) 5 := ho2.yr.hou ht hh _ (by omega) (by omega) 5
          have hB2 : BD c2 t := BD_45 ht hh hW hB ho2
          have hS2 : SIT c2 t := SIT_yr hS ho2.yr
          have hW2 : WFH c2 (c2 t 13) := WFH_yr ht hh hW ho2.yr
          have ef : fondA c2 t p = fondL c1 t (c1 t 12) p := by
            rw [fond_AL hT2 hS2 hB2 ⟨hp0, by omega⟩, e12]
            exact fondL_off ht hh hW ho2.yr
          have hfr := fondA_r hT2 ⟨hW2.2.1, hW2.2.2.1⟩ hp6
          have hthr := hW.2.1
          have skip : goesY (fun Y => fondL c1 t Y p) (c1 (c1 t 13) 5) (c1 (t + 6) p) (c1 t 12) (c1 (t + 5) p) = 0 → WV K (d + 5) mX6_yearsGo 9 [(2, t), (0, m), (0, i), (0, p + 1)] [] c2 Q := by
            intro hz
            refine ihk (p + 1) c2 (by omega) (by omega) ho2 hT2 (fun q a1 a2 => ?_) (fun q a => hk q (by omega))
            by_cases e : q = p
            · subst e; rw [hz, hkp.1, hkp.2]; omega
            · exact hd q a1 (by omega)
          refine s_X6_yearsGo_9 t ht _ _ _ ?_
          rw [e10]
          refine ⟨⟨⟨by omega, by omega⟩, ⟨by omega, by omega⟩⟩, fun z => absurd z (by omega), fun _ => ⟨hp6, fun z1 => ⟨hp6, fun z2 => ?_, fun z2 => ⟨by rcases hrp.2.2.2.2.1 with e | e <;> rw [e] <;> exact ⟨by omega, by omega⟩, skip ?_⟩⟩, fun z1 => ⟨by rcases hrp.2.2.2.2.2.1 with e | e <;> rw [e] <;> exact ⟨by omega, by omega⟩, skip ?_⟩⟩⟩
          · refine k_X6_fondOf ht hT2 hp6 ?_
            rw [ef, e13]
            rw [ef] at hfr
            rw [e6] at z1
            rw [hkp.1] at z2
            refine ⟨hh, ⟨⟨by omega, by omega⟩, ⟨by omega, by omega⟩⟩, fun z3 => skip ?_, fun z3 => ⟨hp6, fun c17 e17 => ⟨hp6, hp6, fun c20 e20 => ?_⟩⟩⟩
            · unfold goesY; exact if_neg (fun q => absurd (show c1 (c1 t 13) 5 ≤ fondL c1 t (c1 t 12) p from q.2.2) (by omega))
            · have hg : goesY (fun Y => fondL c1 t Y p) (c1 (c1 t 13) 5) (c1 (t + 6) p) (c1 t 12) (c1 (t + 5) p) = 1 := by unfold goesY; exact if_pos ⟨z1, z2, show c1 (c1 t 13) 5 ≤ fondL c1 t (c1 t 12) p by omega⟩
              have h17 : ∀ q, c17 (t + 4) q = c2 (t + 4) q := fun q => by subst e17; simp only [up2]; rw [if_neg (by omega)]
              have hT17 : TR c17 t := by subst e17; exact TR_up5 hT2 (Or.inr rfl)
              have hup := hu p hp0 hp6.2
              have hT20 : TR c20 t := by
                subst e20
                refine TR_up4 hT17 ?_
                rw [h17, hkp.2]
                have := (hTR.2.2.2.2.1 p hp0 hp6.2).2.2.2.1
                omega
              have h204 : ∀ q, c20 (t + 4) q = if q = p then c1 (t + 4) p + 1 else c2 (t + 4) q := fun q => by
                subst e20
                simp only [up2, true_and]
                split
                · rw [h17, hkp.2]
                · exact h17 q
              have h205 : ∀ q, c20 (t + 5) q = if q = p then 1 else c2 (t + 5) q := fun q => by
                subst e20
                simp only [up2]
                rw [if_neg (by omega)]
                subst e17
                simp only [up2, true_and]
              refine ihk (p + 1) c20 (by omega) (by omega) ?_ hT20 (fun q a1 a2 => ?_) (fun q a => ?_)
              · intro k' a1 a2 j
                subst e20; subst e17
                simp only [up2]
                rw [if_neg (by omega), if_neg (by omega)]
                exact ho2 k' a1 a2 j
              · rw [h204, h205]
                by_cases e : q = p
                · subst e; rw [if_pos rfl, if_pos rfl, hg, z2]; omega
                · rw [if_neg e, if_neg e]; exact hd q a1 (by omega)
              · rw [h204, h205, if_neg (by omega), if_neg (by omega)]
                exact hk q (by omega)
          · unfold goesY; rw [hkp.1] at z2; rw [if_neg (by omega)]
          · unfold goesY; rw [e6] at z1; rw [if_neg (by omega)]
      exact inner (c1 t 10).toNat 0 c1 (by omega) (by omega) (fun _ _ _ _ => rfl) hTR (fun q a1 a2 => absurd a1 (by omega)) (fun q _ => ⟨rfl, rfl⟩)
  refine e_X6_yearsGo t ht _ (s_X6_yearsGo_0 t ht _ ?_)
  exact loop m.toNat 0 c (by omega) (by omega) offYr.rf hT (by omega) (fun p a1 a2 => by have := hus p a1 a2; omega) h
