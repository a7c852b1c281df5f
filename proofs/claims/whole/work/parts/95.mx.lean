/-! CONSTRUCTORS: behind them lies the fixed world -/
theorem FR_out {k j : Nat} (h10 : (SH k).1 < 10) (hj : nflds (SH k).1 ≤ j) (hf : finR (SH k).1 j = true) : FR k j < 153 := by
  unfold FR
  rw [Int.toNat_natCast, Int.toNat_natCast]
  revert h10 hj hf
  generalize (SH k).1 = kd
  intro h10 hj hf
  obtain ⟨m, rfl⟩ := Nat.exists_eq_add_of_le' hj
  match kd, h10, hf, hj with
  | 0, _, hf, _ => exact absurd ((rfl : false = finR 0 (m + 5)).trans hf) (by decide)
  | 1, _, hf, _ =>
    show (if ((m + 4 : Nat) : Int) = 0 then (k : Int) + 13 else if ((m + 4 : Nat) : Int) < 4 then (k : Int) + 4 * ((m + 4 : Nat) : Int) - 3 else 0) < 153
    rw [if_neg (by omega), if_neg (by omega)]
    decide
  | 2, _, hf, _ => exact absurd ((rfl : false = finR 2 (m + 8)).trans hf) (by decide)
  | 3, _, hf, _ => exact absurd ((rfl : false = finR 3 (m + 6)).trans hf) (by decide)
  | 4, _, hf, _ => exact absurd ((rfl : false = finR 4 (m + 5)).trans hf) (by decide)
  | 5, _, hf, _ => exact absurd ((rfl : false = finR 5 (m + 5)).trans hf) (by decide)
  | 6, _, hf, _ => exact absurd ((rfl : false = finR 6 (m + 14)).trans hf) (by decide)
  | 7, _, hf, _ => exact absurd ((rfl : false = finR 7 (m + 3)).trans hf) (by decide)
  | 8, _, hf, _ =>
    show frX.getD (m + 12) 0 < 153
    exact (by decide : (0 : Int) < 153)
  | 9, _, hf, _ =>
    show frM.getD (m + 78) 0 < 153
    exact (by decide : (0 : Int) < 153)
  | kd + 10, h, _, _ => exact absurd h (by omega)
/-- the final references lead where they should -/
def finOK (c : ct) : Prop := ∀ k j : Nat, k < 153 → finR (SH k).1 j = true → (10 ≤ (SH k).1 ∨ j < nflds (SH k).1) → c k j = FR k j
theorem HV_wG {c : ct} (hv : HV (153, SH, c)) (hf : finOK c) : HV (wG c) := by
  intro k j hk hr
  show mrg c k j < 153
  unfold mrg
  rw [Int.toNat_natCast, Int.toNat_natCast]
  by_cases q : finR (SH k).1 j = true
  · rw [if_pos q]
    by_cases hin : 10 ≤ (SH k).1 ∨ j < nflds (SH k).1
    · rw [← hf k j hk q hin]; exact hv k j hk hr
    · exact FR_out (by omega) (by omega) q
  · rw [if_neg q]; exact hv k j hk hr
theorem wl_wG {ad : Nat → Nat} {cA : Nat → ClassId} {c : ct} (hf : finOK c) : wl ad cA (wG c) = wl ad cA (153, SH, c) := by
  unfold wl
  refine List.map_congr_left (fun k hk => ?_)
  have hk := List.mem_range.mp hk
  show (ad k, ent ad cA (mrg c) k (SH k)) = (ad k, ent ad cA c k (SH k))
  have e : ∀ j : Nat, (10 ≤ (SH k).1 ∨ j < nflds (SH k).1) → mrg c k j = c k j := fun j hin => by
    unfold mrg
    rw [Int.toNat_natCast, Int.toNat_natCast]
    by_cases q : finR (SH k).1 j = true
    · rw [if_pos q]; exact (hf k j hk q hin).symm
    · rw [if_neg q]
  congr 1
  unfold ent
  by_cases h10 : (SH k).1 < 10
  · simp only [h10, if_true]
    have e3 : (List.range (nflds (SH k).1)).map (fun j : Nat => cf ad (fldT (SH k).1 j) (mrg c k j)) = (List.range (nflds (SH k).1)).map (fun j : Nat => cf ad (fldT (SH k).1 j) (c k j)) :=
      List.map_congr_left (fun j hj => by rw [e j (Or.inr (List.mem_range.mp hj))])
    rw [e3]
  · have e2 : ∀ j : Nat, mrg c k j = c k j := fun j => e j (Or.inl (by omega))
    simp only [e2]
theorem W_wG {K : SK} {d : Nat} {y : mth} {kc ks pc : Nat} {L st : List av} {c : ct} {Q : hp → av → Prop} (hf : finOK c) (K' : WP K d y kc ks pc L st (wG c) Q) : WP K d y kc ks pc L st (153, SH, c) Q := by
  intro p e s m args below meth cc D cA ros fm A n0 ad0 QW ad H locs ls C hR hS hn0 ha hl
  refine K' p e s m args below meth cc D cA ros fm A n0 ad0 QW ad H locs ls C ?_ hS hn0 ha hl
  obtain ⟨h1, h2, h3⟩ := hR
  exact ⟨by rw [wl_wG hf]; exact h1, by rw [wl_wG hf]; exact h2, HV_wG h3 hf⟩
theorem all_EX : EX.drop 258 = [] := by decide +kernel
theorem OK_all {c : ct} (h : OKc 153 258 c) {a b : Int} (h0 : 0 ≤ a) (h1 : a < 153) (hb : 0 ≤ b) : c a b = CI0 a b :=
  h a b h0 h1 hb (fun v hv => by rw [all_EX] at hv; exact absurd hv (by simp))
theorem fin_chk : ((List.range 153).all (fun k => (List.range 78).all (fun j => !(decide ((SH k).1 < 10) && decide (j < nflds (SH k).1) && finR (SH k).1 j) || decide (CI0 k j = FR k j)))) = true := by decide +kernel
theorem row_chk : ((List.range 153).all (fun k => !(decide (14 ≤ (SH k).1)) || decide (k = 2) || decide (k = 6))) = true := by decide +kernel
theorem big_chk : (EX.all (fun e => !(e.1 == 2 || e.1 == 6) || decide (e.2.1 < 6))) = true := by decide +kernel
theorem CI0_none {a b : Int} (h : ∀ e ∈ EX, ¬ (e.1 = a ∧ e.2.1 = b)) : CI0 a b = dfl (SH a.toNat).1 b := by
  unfold CI0
  have hf : EX.find? (fun e => e.1 == a && e.2.1 == b) = none := by
    rw [List.find?_eq_none]
    intro w hw hq
    exact h w hw (by simpa using hq)
  rw [hf]
theorem CI0_big {a : Int} (ha : a = 2 ∨ a = 6) {b : Int} (hb : 6 ≤ b) : CI0 a b = -1 := by
  rw [CI0_none (fun e he hq => by
    have := List.all_eq_true.mp big_chk e he
    rcases ha with rfl | rfl <;> simp [hq.1, hq.2] at this <;> omega)]
  rcases ha with rfl | rfl <;> rfl
theorem fin_ok {c : ct} (h : OKc 153 258 c) : finOK c := by
  intro k j hk hq hin
  rw [OK_all h (by omega) (by omega) (by omega)]
  by_cases h10 : (SH k).1 < 10
  · have hj : j < nflds (SH k).1 := by omega
    have h78 : nflds (SH k).1 ≤ 78 := by unfold nflds; split <;> omega
    have := List.all_eq_true.mp (List.all_eq_true.mp fin_chk k (List.mem_range.mpr hk)) j (List.mem_range.mpr (by omega))
    simpa [h10, hj, hq] using this
  · have h14 : 14 ≤ (SH k).1 := by
      unfold finR at hq
      rw [if_neg h10] at hq
      exact of_decide_eq_true hq
    have hk2 : k = 2 ∨ k = 6 := by
      have := List.all_eq_true.mp row_chk k (List.mem_range.mpr hk)
      simpa [h14] using this
    by_cases j6 : j < 6
    · have : j = 0 ∨ j = 1 ∨ j = 2 ∨ j = 3 ∨ j = 4 ∨ j = 5 := by omega
      rcases hk2 with rfl | rfl <;> rcases this with rfl | rfl | rfl | rfl | rfl | rfl <;> decide +kernel
    · rw [CI0_big (by omega) (by omega)]
      rcases hk2 with rfl | rfl
      · show -1 = if 0 ≤ (j : Int) ∧ (j : Int) < 6 then 72 + 4 * (j : Int) else -1
        rw [if_neg (by omega)]
      · show -1 = if 0 ≤ (j : Int) ∧ (j : Int) < 6 then 96 + 2 * (j : Int) else -1
        rw [if_neg (by omega)]
