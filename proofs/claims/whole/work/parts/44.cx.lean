/-! CONTRACTS: the reader's small parts -/
def nx (T : Int → Int) (L a : Int) : Int := if a < L then T a else -1
/-- the reader at work: a house h, the text T of L signs -/
def RD (c : ct) (h : Int) (T : Int → Int) (L : Int) : Prop := (c 3 0 = h ∧ isHou h) ∧ c 3 1 = 1 ∧ (c 3 2 = L ∧ 0 ≤ L ∧ L ≤ 100) ∧ ∀ i, 0 ≤ i → i < L → c 1 i = T i ∧ 0 ≤ T i ∧ T i ≤ 127
def rdO (c c' : ct) : Prop := (∀ k, k ≠ 3 → ∀ j, c' k j = c k j) ∧ ∀ j, j ≠ 3 → j ≠ 4 → c' 3 j = c 3 j
theorem rdO.rf {c : ct} : rdO c c := ⟨fun _ _ _ => rfl, fun _ _ _ => rfl⟩
theorem rdO.trans {c c1 c2 : ct} (h1 : rdO c c1) (h2 : rdO c1 c2) : rdO c c2 := ⟨fun k a j => (h2.1 k a j).trans (h1.1 k a j), fun j a b => (h2.2 j a b).trans (h1.2 j a b)⟩
theorem RD_o {c c' : ct} {h : Int} {T : Int → Int} {L : Int} (hR : RD c h T L) (ho : rdO c c') : RD c' h T L := by
  obtain ⟨h1, h2, h3, h4⟩ := hR
  exact ⟨by rw [ho.2 0 (by decide) (by decide)]; exact h1, by rw [ho.2 1 (by decide) (by decide)]; exact h2, by rw [ho.2 2 (by decide) (by decide)]; exact h3, fun i a b => by rw [ho.1 1 (by decide)]; exact h4 i a b⟩
theorem nx_r {c : ct} {h : Int} {T : Int → Int} {L a : Int} (hR : RD c h T L) (ha : 0 ≤ a) : -1 ≤ nx T L a ∧ nx T L a ≤ 127 := by
  unfold nx
  split
  · have := (hR.2.2.2 a ha (by assumption)).2; omega
  · omega
theorem k_next {K : SK} {d : Nat} {c : ct} {Q : ct → Int → Prop} {h : Int} {T : Int → Int} {L : Int} (hR : RD c h T L) (ha : 0 ≤ c 3 3 ∧ c 3 3 ≤ 200) (hq : Q c (nx T L (c 3 3))) : CI K (d + 1) mX4_next [(2, 3)] c Q := by
  obtain ⟨h1, h2, ⟨h3, l0, l1⟩, h4⟩ := hR
  unfold nx at hq
  refine e_X4_next (s_X4_next_0 ?_)
  rw [h2, h3]
  refine ⟨⟨by omega, by omega⟩, fun z => absurd z (by omega), fun _ => ⟨⟨⟨by omega, by omega⟩, ⟨by omega, by omega⟩⟩, fun z => ?_, fun z => ⟨⟨by decide, by decide, rfl⟩, by omega, ?_⟩⟩⟩
  · rw [if_neg (by omega)] at hq; exact hq
  · rw [if_pos (by omega), ← (h4 _ ha.1 (by omega)).1] at hq; exact hq
theorem k_isSign {K : SK} {d : Nat} {c : ct} {Q : ct → Int → Prop} {h : Int} {T : Int → Int} {L s : Int} (hR : RD c h T L) (ha : 0 ≤ c 3 3 ∧ c 3 3 ≤ 200) (hs : ir s) (h0 : nx T L (c 3 3) ≠ s → Q c 0) (h1 : ∀ c', nx T L (c 3 3) = s → rdO c c' → c' 3 3 = c 3 3 + 1 → c' 3 4 = c 3 4 → Q c' 1) : CI K (d + 2) mX4_isSign [(2, 3), (0, s)] c Q := by
  have hn := nx_r hR ha.1
  refine e_X4_isSign s (s_X4_isSign_0 s (k_next hR ha ⟨fun z c4 e4 => ?_, fun z => ⟨⟨⟨by omega, by omega⟩, hs⟩, h0 z⟩⟩))
  exact h1 c4 z ⟨fun k a j => by subst e4; exact up2_ne1 a, fun j a b => by subst e4; exact up2_ne2 a⟩ (by subst e4; exact up2_self) (by subst e4; exact up2_ne2 (by decide))
/-- the digit there; 10: none -/
def dgt (T : Int → Int) (L a : Int) : Int := if 48 ≤ nx T L a ∧ nx T L a ≤ 57 then nx T L a - 48 else 10
/-- a number there: its value, and where it ends -/
def nuV (T : Int → Int) (L a : Int) : Int := if dgt T L (a + 1) = 10 then dgt T L a else 10 * dgt T L a + dgt T L (a + 1)
def nuE (T : Int → Int) (L a : Int) : Int := if dgt T L (a + 1) = 10 then a + 1 else a + 2
theorem k_isNumber {K : SK} {d : Nat} {c : ct} {Q : ct → Int → Prop} {h : Int} {T : Int → Int} {L : Int} (hR : RD c h T L) (ha : 0 ≤ c 3 3 ∧ c 3 3 ≤ 199) (h0 : dgt T L (c 3 3) = 10 → Q c 0) (h1 : ∀ c', dgt T L (c 3 3) ≠ 10 → rdO c c' → c' 3 3 = nuE T L (c 3 3) → c' 3 4 = nuV T L (c 3 3) → Q c' 1) : CI K (d + 2) mX4_isNumber [(2, 3)] c Q := by
  have hn := nx_r hR ha.1
  refine e_X4_isNumber (s_X4_isNumber_0 (k_next hR (by omega) (g_isDigit _ ⟨by omega, by omega⟩ (fun z => ⟨fun _ => h0 ?_, fun q => absurd rfl q⟩) (fun d1 d2 => ⟨fun q => absurd q one_ne, fun _ => ⟨ir01.2, fun c6 e6 => ?_⟩⟩))))
  · unfold dgt; rw [if_neg (by omega)]
  have o6 : rdO c c6 := ⟨fun k a j => by subst e6; exact up2_ne1 a, fun j a b => by subst e6; exact up2_ne2 a⟩
  have a6 : c6 3 3 = c 3 3 + 1 := by subst e6; exact up2_self
  have eD : dgt T L (c 3 3) = nx T L (c 3 3) - 48 := by unfold dgt; rw [if_pos (by omega)]
  have hR6 := RD_o hR o6
  have hn6 := nx_r hR6 (a := c 3 3 + 1) (by omega)
  clear e6
  refine k_next hR6 (by omega) ?_
  rw [a6]
  refine g_isDigit _ ⟨by omega, by omega⟩ (fun z => ⟨fun _ c12 e12 => ?_, fun q => absurd rfl q⟩) (fun f1 f2 => ⟨fun q => absurd q one_ne, fun _ => ⟨ir01.2, fun c13 e13 c14 e14 => ?_⟩⟩)
  · have e2 : dgt T L (c 3 3 + 1) = 10 := by unfold dgt; rw [if_neg (by omega)]
    refine h1 c12 (by omega) (o6.trans ⟨fun k a j => by subst e12; exact up2_ne1 a, fun j a b => by subst e12; exact up2_ne2 b⟩) ?_ ?_
    · unfold nuE; rw [if_pos e2]; subst e12; rw [up2_ne2 (by decide)]; exact a6
    · unfold nuV; rw [if_pos e2, eD]; subst e12; exact up2_self
  · have e2 : dgt T L (c 3 3 + 1) = nx T L (c 3 3 + 1) - 48 := by unfold dgt; rw [if_pos (by omega)]
    refine h1 c14 (by omega) (o6.trans ⟨fun k a j => by subst e14; rw [up2_ne1 a]; subst e13; exact up2_ne1 a, fun j a b => by subst e14; rw [up2_ne2 b]; subst e13; exact up2_ne2 a⟩) ?_ ?_
    · unfold nuE; rw [if_neg (by omega)]; subst e14; rw [up2_ne2 (by decide)]; subst e13; rw [up2_self, a6]; omega
    · unfold nuV; rw [if_neg (by omega), eD, e2]; subst e14; exact up2_self
def fcL (x : Int) : Int := if x = 112 then 0 else if x = 113 then 1 else if x = 107 then 2 else if x = 106 then 3 else if x = 118 then 4 else if x = 121 then 5 else -1
theorem k_factOf {K : SK} {d : Nat} {c : ct} {Q : ct → Int → Prop} {x : Int} (hx : ir x) (h : Q c (fcL x)) : CI K (d + 1) mX4_factOf [(0, x)] c Q := by
  unfold fcL at h
  refine e_X4_factOf x (s_X4_factOf_0 x ⟨hx, ?_⟩)
  refine ⟨fun z => ?_, fun z => ?_, fun z => ?_, fun z => ?_, fun z => ?_, fun z => ?_, fun z => ?_, fun z => ?_, fun z => ?_, fun z => ?_, fun z => ?_, fun z => ?_, fun z => ?_, fun z => ?_, fun z => ?_, fun z => ?_, fun z => ?_⟩
  all_goals first | (subst z; exact h) | skip
  repeat rw [if_neg (show ¬ x = _ by omega)] at h
  exact h
def cmL (x : Int) : Int := if x = 60 then 0 else if x = 61 then 1 else if x = 62 then 2 else -1
theorem k_compareOf {K : SK} {d : Nat} {c : ct} {Q : ct → Int → Prop} {x : Int} (hx : ir x) (h : Q c (cmL x)) : CI K (d + 1) mX4_compareOf [(0, x)] c Q := by
  unfold cmL at h
  refine e_X4_compareOf x (s_X4_compareOf_0 x ⟨hx, fun z => ?_, fun z => ?_, fun z => ?_, fun z => ?_⟩)
  all_goals first | (subst z; exact h) | skip
  repeat rw [if_neg (show ¬ x = _ by omega)] at h
  exact h
