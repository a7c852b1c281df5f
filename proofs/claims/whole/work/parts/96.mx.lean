/-! CONSTRUCTORS: what stands at the first step -/
def H00 : hf := fun _ l _ => if l = 0 then 2 else if l = 1 then 5 else 6
def N00 : ct := fun k j => if k = 0 ∧ j = 13 then -1 else 0
def X00 : ct := fun k _ => if k = 3 then -1 else 0
theorem six_of {P : Int → Prop} (h : P 0 ∧ P 1 ∧ P 2 ∧ P 3 ∧ P 4 ∧ P 5) : ∀ p, 0 ≤ p → p < 6 → P p := fun p a b => by
  have : p = 0 ∨ p = 1 ∨ p = 2 ∨ p = 3 ∨ p = 4 ∨ p = 5 := by omega
  obtain ⟨h0, h1, h2, h3, h4, h5⟩ := h
  rcases this with rfl | rfl | rfl | rfl | rfl | rfl <;> assumption
/-- a row of which nothing but zeros was written -/
theorem row_zero {c : ct} (h : OKc 153 258 c) {a : Int} (h0 : 0 ≤ a ∧ a < 153) (hz : (EX.all (fun e => !(e.1 == a) || e.2.2 == 0)) = true) (hd : (SH a.toNat).1 = 10 ∨ (SH a.toNat).1 = 11 ∨ (SH a.toNat).1 = 12 ∨ (SH a.toNat).1 = 13) : ∀ j, 0 ≤ j → c a j = 0 := by
  intro j hj
  rw [OK_all h h0.1 h0.2 hj]
  unfold CI0
  have hdf : dfl (SH a.toNat).1 j = 0 := by
    unfold dfl
    rcases hd with e | e | e | e <;> rw [e] <;> rfl
  cases hf : EX.find? (fun e => e.1 == a && e.2.1 == j) with
  | none => exact hdf
  | some e =>
    have hm := List.mem_of_find?_eq_some hf
    have hp := List.find?_some hf
    have := List.all_eq_true.mp hz e hm
    have hp1 : e.1 = a := by
      have : e.1 = a ∧ e.2.1 = j := by simpa using hp
      exact this.1
    simpa [hp1] using this
theorem cellAt {c : ct} (h : OKc 153 258 c) {a b v : Int} (hb : 0 ≤ a ∧ a < 153 ∧ 0 ≤ b) (hv : CI0 a b = v) : c a b = v := by
  rw [OK_all h hb.1 hb.2.1 hb.2.2]; exact hv
theorem minus_row {c : ct} (h : OKc 153 258 c) {a : Int} (h0 : 0 ≤ a ∧ a < 153) (hv : CI0 a 0 = -1 ∧ CI0 a 1 = -1 ∧ CI0 a 2 = -1 ∧ CI0 a 3 = -1 ∧ CI0 a 4 = -1 ∧ CI0 a 5 = -1) : ∀ p, 0 ≤ p → p < 6 → c a p = -1 := fun p a1 b1 => by
  rw [OK_all h h0.1 h0.2 a1]
  exact six_of (P := fun p => CI0 a p = -1) hv p a1 b1
theorem bare_W {c : ct} (h : OKc 153 258 c) : WFH c 7 ∧ HR H00 c (-1) := by
  have e1 := (cellAt h (a := 7) (b := 1) (v := 0) ⟨by decide, by decide, by decide⟩ (by decide +kernel))
  have e4 := (cellAt h (a := 7) (b := 4) (v := 0) ⟨by decide, by decide, by decide⟩ (by decide +kernel))
  have e5 := (cellAt h (a := 7) (b := 5) (v := 5) ⟨by decide, by decide, by decide⟩ (by decide +kernel))
  have e6 := (cellAt h (a := 7) (b := 6) (v := 6) ⟨by decide, by decide, by decide⟩ (by decide +kernel))
  have e7 := (cellAt h (a := 7) (b := 7) (v := 0) ⟨by decide, by decide, by decide⟩ (by decide +kernel))
  have w : WFH c 7 := by
    unfold WFH
    rw [e1, e4, e5, e6, e7]
    exact ⟨by omega, by omega, by omega, by omega, ⟨by omega, fun _ j a b => absurd b (by omega)⟩, fun w a b => absurd b (by omega)⟩
  refine ⟨w, w, fun F => ⟨?_, ?_, ?_⟩⟩
  · show likA c 7 F = 2
    unfold likA
    rw [e4]
    rfl
  · show c 7 5 = 5
    exact e5
  · show c 7 6 = 6
    exact e6
theorem EV_11 {c : ct} (h : OKc 153 258 c) : EV H00 c 11 N00 := by
  obtain ⟨hw, hh⟩ := bare_W h
  have z0 := (row_zero h (a := 25) ⟨by decide, by decide⟩ (by decide +kernel) (by decide +kernel))
  have z1 := (row_zero h (a := 26) ⟨by decide, by decide⟩ (by decide +kernel) (by decide +kernel))
  have z2 := (row_zero h (a := 27) ⟨by decide, by decide⟩ (by decide +kernel) (by decide +kernel))
  have z3 := (row_zero h (a := 28) ⟨by decide, by decide⟩ (by decide +kernel) (by decide +kernel))
  have z4 := (row_zero h (a := 29) ⟨by decide, by decide⟩ (by decide +kernel) (by decide +kernel))
  have z5 := (row_zero h (a := 30) ⟨by decide, by decide⟩ (by decide +kernel) (by decide +kernel))
  have z6 := (row_zero h (a := 31) ⟨by decide, by decide⟩ (by decide +kernel) (by decide +kernel))
  have z7 := (row_zero h (a := 33) ⟨by decide, by decide⟩ (by decide +kernel) (by decide +kernel))
  have sr := minus_row h (a := 32) ⟨by decide, by decide⟩ (by decide +kernel)
  have t10 := (cellAt h (a := 24) (b := 10) (v := 0) ⟨by decide, by decide, by decide⟩ (by decide +kernel))
  have t11 := (cellAt h (a := 24) (b := 11) (v := 0) ⟨by decide, by decide, by decide⟩ (by decide +kernel))
  have t12 := (cellAt h (a := 24) (b := 12) (v := 0) ⟨by decide, by decide, by decide⟩ (by decide +kernel))
  have t13 := (cellAt h (a := 24) (b := 13) (v := 7) ⟨by decide, by decide, by decide⟩ (by decide +kernel))
  have hn : ∀ p, 0 ≤ p → p < c 24 10 → False := fun p a b => by rw [t10] at b; omega
  have hTR : TR c 24 := by
    refine ⟨by rw [t10]; omega, by rw [t11]; omega, by rw [t12]; omega, by rw [t13]; unfold isHou; omega, fun p a b => ?_, fun i a b => ?_, fun i a b => ?_⟩
    · show (0 ≤ c 25 p ∧ c 25 p < 7) ∧ (0 ≤ c 26 p ∧ c 26 p ≤ 9) ∧ (0 ≤ c 27 p ∧ c 27 p < 6) ∧ (0 ≤ c 28 p ∧ c 28 p ≤ 20000) ∧ (c 29 p = 0 ∨ c 29 p = 1) ∧ (c 30 p = 0 ∨ c 30 p = 1) ∧ (-1 ≤ c 32 p ∧ c 32 p < 6)
      rw [z0 p a, z1 p a, z2 p a, z3 p a, z4 p a, z5 p a, sr p a b]; omega
    · show 0 ≤ c 31 i ∧ c 31 i ≤ 9
      rw [z6 i a]; omega
    · show -1000 ≤ c 33 i ∧ c 33 i ≤ 1000
      rw [z7 i a]; omega
  have hTI : TI c 24 := ⟨hTR, by rw [t13]; exact hw, fun s a b => by show c 32 s < c 24 10; rw [sr s a b, t10]; decide, fun p q a b _ _ => (hn p a b).elim⟩
  have hTS : TS c 24 := ⟨fun p a b => (hn p a b).elim, fun s a b q => by have q2 : 0 ≤ c 32 s := q; rw [sr s a b] at q2; omega⟩
  refine ⟨⟨hTI, hTS, ⟨t10, t11, t12, t13, by decide, by decide⟩, hh, fun p a b => absurd b (by show ¬ p < 0; omega), fun p a b => by show c 28 p ≤ c 24 12; rw [z3 p a, t12]; omega⟩, fun p a b => ?_, ?_, ?_, ?_⟩
  · have a0 : 0 ≤ p := by have a2 : c 24 10 ≤ p := a; rw [t10] at a2; exact a2
    show c 28 p = 0 ∧ c 29 p = 0 ∧ c 30 p = 0 ∧ ∀ i, 0 ≤ i → i < 4 → c 31 (p * 4 + i) = 0
    exact ⟨z3 p a0, z4 p a0, z5 p a0, fun i i0 i4 => z6 _ (by omega)⟩
  · exact ⟨(cellAt h (a := 12) (b := 3) (v := 5) ⟨by decide, by decide, by decide⟩ (by decide +kernel)), (cellAt h (a := 12) (b := 4) (v := 0) ⟨by decide, by decide, by decide⟩ (by decide +kernel)), ⟨by decide, by show (0 : Int) ≤ _; omega⟩, fun i a b => absurd b (by show ¬ i < 0; omega)⟩
  · exact ⟨(cellAt h (a := 16) (b := 3) (v := 10) ⟨by decide, by decide, by decide⟩ (by decide +kernel)), (cellAt h (a := 16) (b := 4) (v := 0) ⟨by decide, by decide, by decide⟩ (by decide +kernel)), ⟨by decide, by show (0 : Int) ≤ _; omega⟩, fun i a b => absurd b (by show ¬ i < 0; omega)⟩
  · exact ⟨(cellAt h (a := 20) (b := 3) (v := 8) ⟨by decide, by decide, by decide⟩ (by decide +kernel)), (cellAt h (a := 20) (b := 4) (v := 0) ⟨by decide, by decide, by decide⟩ (by decide +kernel)), ⟨by decide, by show (0 : Int) ≤ _; omega⟩, fun i a b => absurd b (by show ¬ i < 0; omega)⟩
theorem EV_35 {c : ct} (h : OKc 153 258 c) : EV H00 c 35 N00 := by
  obtain ⟨hw, hh⟩ := bare_W h
  have z0 := (row_zero h (a := 49) ⟨by decide, by decide⟩ (by decide +kernel) (by decide +kernel))
  have z1 := (row_zero h (a := 50) ⟨by decide, by decide⟩ (by decide +kernel) (by decide +kernel))
  have z2 := (row_zero h (a := 51) ⟨by decide, by decide⟩ (by decide +kernel) (by decide +kernel))
  have z3 := (row_zero h (a := 52) ⟨by decide, by decide⟩ (by decide +kernel) (by decide +kernel))
  have z4 := (row_zero h (a := 53) ⟨by decide, by decide⟩ (by decide +kernel) (by decide +kernel))
  have z5 := (row_zero h (a := 54) ⟨by decide, by decide⟩ (by decide +kernel) (by decide +kernel))
  have z6 := (row_zero h (a := 55) ⟨by decide, by decide⟩ (by decide +kernel) (by decide +kernel))
  have z7 := (row_zero h (a := 57) ⟨by decide, by decide⟩ (by decide +kernel) (by decide +kernel))
  have sr := minus_row h (a := 56) ⟨by decide, by decide⟩ (by decide +kernel)
  have t10 := (cellAt h (a := 48) (b := 10) (v := 0) ⟨by decide, by decide, by decide⟩ (by decide +kernel))
  have t11 := (cellAt h (a := 48) (b := 11) (v := 0) ⟨by decide, by decide, by decide⟩ (by decide +kernel))
  have t12 := (cellAt h (a := 48) (b := 12) (v := 0) ⟨by decide, by decide, by decide⟩ (by decide +kernel))
  have t13 := (cellAt h (a := 48) (b := 13) (v := 7) ⟨by decide, by decide, by decide⟩ (by decide +kernel))
  have hn : ∀ p, 0 ≤ p → p < c 48 10 → False := fun p a b => by rw [t10] at b; omega
  have hTR : TR c 48 := by
    refine ⟨by rw [t10]; omega, by rw [t11]; omega, by rw [t12]; omega, by rw [t13]; unfold isHou; omega, fun p a b => ?_, fun i a b => ?_, fun i a b => ?_⟩
    · show (0 ≤ c 49 p ∧ c 49 p < 7) ∧ (0 ≤ c 50 p ∧ c 50 p ≤ 9) ∧ (0 ≤ c 51 p ∧ c 51 p < 6) ∧ (0 ≤ c 52 p ∧ c 52 p ≤ 20000) ∧ (c 53 p = 0 ∨ c 53 p = 1) ∧ (c 54 p = 0 ∨ c 54 p = 1) ∧ (-1 ≤ c 56 p ∧ c 56 p < 6)
      rw [z0 p a, z1 p a, z2 p a, z3 p a, z4 p a, z5 p a, sr p a b]; omega
    · show 0 ≤ c 55 i ∧ c 55 i ≤ 9
      rw [z6 i a]; omega
    · show -1000 ≤ c 57 i ∧ c 57 i ≤ 1000
      rw [z7 i a]; omega
  have hTI : TI c 48 := ⟨hTR, by rw [t13]; exact hw, fun s a b => by show c 56 s < c 48 10; rw [sr s a b, t10]; decide, fun p q a b _ _ => (hn p a b).elim⟩
  have hTS : TS c 48 := ⟨fun p a b => (hn p a b).elim, fun s a b q => by have q2 : 0 ≤ c 56 s := q; rw [sr s a b] at q2; omega⟩
  refine ⟨⟨hTI, hTS, ⟨t10, t11, t12, t13, by decide, by decide⟩, hh, fun p a b => absurd b (by show ¬ p < 0; omega), fun p a b => by show c 52 p ≤ c 48 12; rw [z3 p a, t12]; omega⟩, fun p a b => ?_, ?_, ?_, ?_⟩
  · have a0 : 0 ≤ p := by have a2 : c 48 10 ≤ p := a; rw [t10] at a2; exact a2
    show c 52 p = 0 ∧ c 53 p = 0 ∧ c 54 p = 0 ∧ ∀ i, 0 ≤ i → i < 4 → c 55 (p * 4 + i) = 0
    exact ⟨z3 p a0, z4 p a0, z5 p a0, fun i i0 i4 => z6 _ (by omega)⟩
  · exact ⟨(cellAt h (a := 36) (b := 3) (v := 5) ⟨by decide, by decide, by decide⟩ (by decide +kernel)), (cellAt h (a := 36) (b := 4) (v := 0) ⟨by decide, by decide, by decide⟩ (by decide +kernel)), ⟨by decide, by show (0 : Int) ≤ _; omega⟩, fun i a b => absurd b (by show ¬ i < 0; omega)⟩
  · exact ⟨(cellAt h (a := 40) (b := 3) (v := 10) ⟨by decide, by decide, by decide⟩ (by decide +kernel)), (cellAt h (a := 40) (b := 4) (v := 0) ⟨by decide, by decide, by decide⟩ (by decide +kernel)), ⟨by decide, by show (0 : Int) ≤ _; omega⟩, fun i a b => absurd b (by show ¬ i < 0; omega)⟩
  · exact ⟨(cellAt h (a := 44) (b := 3) (v := 8) ⟨by decide, by decide, by decide⟩ (by decide +kernel)), (cellAt h (a := 44) (b := 4) (v := 0) ⟨by decide, by decide, by decide⟩ (by decide +kernel)), ⟨by decide, by show (0 : Int) ≤ _; omega⟩, fun i a b => absurd b (by show ¬ i < 0; omega)⟩
theorem CSR_0 {c : ct} (h : OKc 153 258 c) : CSR H00 c N00 N00 X00 := by
  have hI : INV N00 := ⟨⟨by decide, by decide⟩, fun i a b => absurd b (by show ¬ i < 0; omega), fun i a b => absurd b (by show ¬ i < 0; omega), fun i a b => absurd b (by show ¬ i < 0; omega)⟩
  refine ⟨EV_11 h, EV_35 h, ⟨hI, hI⟩, fun i a b => ?_, ⟨by decide, by decide⟩, ⟨(cellAt h (a := 0) (b := 2) (v := 0) ⟨by decide, by decide, by decide⟩ (by decide +kernel)), Or.inl rfl⟩, ⟨(cellAt h (a := 0) (b := 5) (v := 0) ⟨by decide, by decide, by decide⟩ (by decide +kernel)), by decide, by decide⟩, ⟨(cellAt h (a := 0) (b := 7) (v := 0) ⟨by decide, by decide, by decide⟩ (by decide +kernel)), by decide, by decide⟩, ⟨(cellAt h (a := 4) (b := 1) (v := 0) ⟨by decide, by decide, by decide⟩ (by decide +kernel)), by decide, by decide⟩, fun i a b => absurd b (by show ¬ i < 0; omega), fun i a _ b => absurd b (by show ¬ i < 0; omega), ?_⟩
  · have e : i = -1 := by have b2 : i < 0 := b; omega
    subst e
    exact (bare_W h).2
  · intro t a b
    have : t = 0 ∨ t = 1 ∨ t = 2 ∨ t = 3 ∨ t = 4 ∨ t = 5 := by omega
    rcases this with rfl | rfl | rfl | rfl | rfl | rfl
    · exact ⟨⟨(cellAt h (a := 96) (b := 1) (v := -1) ⟨by decide, by decide, by decide⟩ (by decide +kernel)), by decide, by decide⟩, ⟨(cellAt h (a := 96) (b := 2) (v := 0) ⟨by decide, by decide, by decide⟩ (by decide +kernel)), by decide, by decide, fun _ => rfl⟩, fun i i0 _ => (row_zero h (a := 97) ⟨by decide, by decide⟩ (by decide +kernel) (by decide +kernel)) i i0⟩
    · exact ⟨⟨(cellAt h (a := 98) (b := 1) (v := -1) ⟨by decide, by decide, by decide⟩ (by decide +kernel)), by decide, by decide⟩, ⟨(cellAt h (a := 98) (b := 2) (v := 0) ⟨by decide, by decide, by decide⟩ (by decide +kernel)), by decide, by decide, fun _ => rfl⟩, fun i i0 _ => (row_zero h (a := 99) ⟨by decide, by decide⟩ (by decide +kernel) (by decide +kernel)) i i0⟩
    · exact ⟨⟨(cellAt h (a := 100) (b := 1) (v := -1) ⟨by decide, by decide, by decide⟩ (by decide +kernel)), by decide, by decide⟩, ⟨(cellAt h (a := 100) (b := 2) (v := 0) ⟨by decide, by decide, by decide⟩ (by decide +kernel)), by decide, by decide, fun _ => rfl⟩, fun i i0 _ => (row_zero h (a := 101) ⟨by decide, by decide⟩ (by decide +kernel) (by decide +kernel)) i i0⟩
    · exact ⟨⟨(cellAt h (a := 102) (b := 1) (v := -1) ⟨by decide, by decide, by decide⟩ (by decide +kernel)), by decide, by decide⟩, ⟨(cellAt h (a := 102) (b := 2) (v := 0) ⟨by decide, by decide, by decide⟩ (by decide +kernel)), by decide, by decide, fun _ => rfl⟩, fun i i0 _ => (row_zero h (a := 103) ⟨by decide, by decide⟩ (by decide +kernel) (by decide +kernel)) i i0⟩
    · exact ⟨⟨(cellAt h (a := 104) (b := 1) (v := -1) ⟨by decide, by decide, by decide⟩ (by decide +kernel)), by decide, by decide⟩, ⟨(cellAt h (a := 104) (b := 2) (v := 0) ⟨by decide, by decide, by decide⟩ (by decide +kernel)), by decide, by decide, fun _ => rfl⟩, fun i i0 _ => (row_zero h (a := 105) ⟨by decide, by decide⟩ (by decide +kernel) (by decide +kernel)) i i0⟩
    · exact ⟨⟨(cellAt h (a := 106) (b := 1) (v := -1) ⟨by decide, by decide, by decide⟩ (by decide +kernel)), by decide, by decide⟩, ⟨(cellAt h (a := 106) (b := 2) (v := 0) ⟨by decide, by decide, by decide⟩ (by decide +kernel)), by decide, by decide, fun _ => rfl⟩, fun i i0 _ => (row_zero h (a := 107) ⟨by decide, by decide⟩ (by decide +kernel) (by decide +kernel)) i i0⟩
theorem MSR_0 {c : ct} (h : OKc 153 258 c) : MSR H00 c N00 N00 X00 := by
  have v130 := (row_zero h (a := 130) ⟨by decide, by decide⟩ (by decide +kernel) (by decide +kernel))
  have v147 := (row_zero h (a := 147) ⟨by decide, by decide⟩ (by decide +kernel) (by decide +kernel))
  have nx : ∀ i : Int, 0 ≤ i → i < 0 → False := fun i a b => by omega
  have hS : MS c N00 := ⟨⟨⟨(cellAt h (a := 108) (b := 0) (v := 0) ⟨by decide, by decide, by decide⟩ (by decide +kernel)), by decide, by decide⟩, ⟨(cellAt h (a := 108) (b := 3) (v := 0) ⟨by decide, by decide, by decide⟩ (by decide +kernel)), by decide, by decide⟩, ⟨(cellAt h (a := 108) (b := 4) (v := 0) ⟨by decide, by decide, by decide⟩ (by decide +kernel)), by decide, by decide⟩, ⟨(cellAt h (a := 108) (b := 11) (v := -1) ⟨by decide, by decide, by decide⟩ (by decide +kernel)), by decide, by decide⟩, (cellAt h (a := 108) (b := 1) (v := 0) ⟨by decide, by decide, by decide⟩ (by decide +kernel)), (cellAt h (a := 108) (b := 2) (v := 0) ⟨by decide, by decide, by decide⟩ (by decide +kernel)), fun p a b => (nx p a b).elim⟩, ⟨(cellAt h (a := 108) (b := 39) (v := 0) ⟨by decide, by decide, by decide⟩ (by decide +kernel)), fun i a b => ⟨Or.inl (v130 i a), fun q => (nx i a q).elim⟩⟩, ⟨(cellAt h (a := 108) (b := 44) (v := 0) ⟨by decide, by decide, by decide⟩ (by decide +kernel)), fun i a b => (nx i a b).elim⟩, (cellAt h (a := 108) (b := 45) (v := 0) ⟨by decide, by decide, by decide⟩ (by decide +kernel)), fun i a b => (nx i a b).elim⟩
  have hV : MS (vw c) N00 := ⟨⟨⟨(cellAt h (a := 108) (b := 52) (v := 0) ⟨by decide, by decide, by decide⟩ (by decide +kernel)), by decide, by decide⟩, ⟨(cellAt h (a := 108) (b := 55) (v := 0) ⟨by decide, by decide, by decide⟩ (by decide +kernel)), by decide, by decide⟩, ⟨(cellAt h (a := 108) (b := 56) (v := 0) ⟨by decide, by decide, by decide⟩ (by decide +kernel)), by decide, by decide⟩, ⟨(cellAt h (a := 108) (b := 51) (v := -1) ⟨by decide, by decide, by decide⟩ (by decide +kernel)), by decide, by decide⟩, (cellAt h (a := 108) (b := 53) (v := 0) ⟨by decide, by decide, by decide⟩ (by decide +kernel)), (cellAt h (a := 108) (b := 54) (v := 0) ⟨by decide, by decide, by decide⟩ (by decide +kernel)), fun p a b => (nx p a b).elim⟩, ⟨(cellAt h (a := 108) (b := 57) (v := 0) ⟨by decide, by decide, by decide⟩ (by decide +kernel)), fun i a b => ⟨Or.inl (v147 i a), fun q => (nx i a q).elim⟩⟩, ⟨(cellAt h (a := 108) (b := 58) (v := 0) ⟨by decide, by decide, by decide⟩ (by decide +kernel)), fun i a b => (nx i a b).elim⟩, (cellAt h (a := 108) (b := 59) (v := 0) ⟨by decide, by decide, by decide⟩ (by decide +kernel)), fun i a b => (nx i a b).elim⟩
  refine ⟨hS, (cellAt h (a := 108) (b := 29) (v := 9999) ⟨by decide, by decide, by decide⟩ (by decide +kernel)), hV, fun i a b => ?_, (cellAt h (a := 108) (b := 50) (v := 0) ⟨by decide, by decide, by decide⟩ (by decide +kernel)), (cellAt h (a := 108) (b := 12) (v := 0) ⟨by decide, by decide, by decide⟩ (by decide +kernel)), (cellAt h (a := 108) (b := 10) (v := 0) ⟨by decide, by decide, by decide⟩ (by decide +kernel)), (cellAt h (a := 108) (b := 72) (v := 0) ⟨by decide, by decide, by decide⟩ (by decide +kernel)), fun i a b => (nx i a b).elim, fun i a _ b => (nx i a b).elim, fun t a b => ⟨?_, ?_, fun i i0 i6 => ?_⟩⟩
  · have e : i = -1 := by have b2 : i < 0 := b; omega
    subst e
    refine ⟨fun q => absurd q (by decide), fun k k0 k1 => absurd k1 (by show ¬ k < 0; have : 0 ≤ k := k0; omega), fun F => ⟨rfl, rfl, rfl, fun i hi => ?_⟩⟩
    have : i = 0 ∨ i = 1 ∨ i = 2 ∨ i = 3 ∨ i = 4 ∨ i = 5 ∨ i = 6 ∨ i = 7 ∨ i = 8 ∨ i = 9 ∨ i = 10 ∨ i = 11 ∨ i = 12 ∨ i = 13 ∨ i = 14 ∨ i = 15 ∨ i = 16 ∨ i = 17 ∨ i = 18 ∨ i = 19 := by omega
    rw [OK_all h (by decide) (by decide) (by omega)]
    rcases this with rfl | rfl | rfl | rfl | rfl | rfl | rfl | rfl | rfl | rfl | rfl | rfl | rfl | rfl | rfl | rfl | rfl | rfl | rfl | rfl <;> decide +kernel
  · exact minus_row h (a := 149) ⟨by decide, by decide⟩ (by decide +kernel) t a b
  · exact (row_zero h (a := 150) ⟨by decide, by decide⟩ (by decide +kernel) (by decide +kernel)) t a
  · have e : X00 (10 + t) i = 0 := by unfold X00; rw [if_neg (by omega)]
    rw [e]
    exact (row_zero h (a := 151) ⟨by decide, by decide⟩ (by decide +kernel) (by decide +kernel)) (60 * t + i) (by omega)
theorem LI_0 {c : ct} (h : OKc 153 258 c) : LI c := by
  refine ⟨H00, N00, N00, X00, CSR_0 h, MSR_0 h, fun t a b i c0 d0 => ?_, ?_, ?_⟩
  · have e : X00 (10 + t) i = 0 := by unfold X00; rw [if_neg (by omega)]
    rw [e]; exact il_0
  · rw [(cellAt h (a := 70) (b := 2) (v := 0) ⟨by decide, by decide, by decide⟩ (by decide +kernel))]; exact ⟨by decide, by decide⟩
  · rw [(cellAt h (a := 70) (b := 3) (v := 0) ⟨by decide, by decide, by decide⟩ (by decide +kernel))]; exact ⟨by decide, by decide⟩
