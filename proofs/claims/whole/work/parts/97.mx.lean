/-! LAW: from its entry -/
theorem law_start {K : SK} {d : Nat} {Q : hp → av → Prop} (c : ct) (hR : ∀ j : Nat, ir (roC K 0 j)) (hn : (K.2.1 : Int) ≤ 2147483647) (h1 : ∀ G, Q G (0, 1)) : WP K (d + 25) mL_law 0 0 0 [(3, ((0 : Nat) : Int)), (9, 0), (9, 0), (9, 0)] [] (0, SH, c) Q := by
  have h : OKc 0 0 c := fun a b h0 h1 => absurd h1 (by omega)
  refine R_new (pc' := 3) dL_law_0 (by decide) l_RL_7 w_ins_8 w_ini_LeavesRoom (Nat.le_of_ble_eq_true rfl) (Nat.le_of_ble_eq_true rfl) (okR_mk (n := 0) (by decide)) (okR_mk (n := 0) (by decide)) rfl ?_
  refine W_new (n := 0) (k := 0) (xi := 0) (n1 := 1) (kc1 := 1) (ks1 := 12) h (by decide +kernel) (by decide +kernel) rfl rfl rfl rfl (fun c1 h2 => ?_)
  refine R_dup (pc' := 4) dL_law_3 (by simp) rfl ?_
  refine R_callI (vs := []) (st := [(2, 0)]) (x := 0) (pc' := 7) dL_law_4 l_RL_9 (by decide) rfl (by decide) (Nat.le_of_ble_eq_true rfl) (Nat.le_of_ble_eq_true rfl) (Or.inr ⟨okR_mk (n := 1) (by decide), okR_mk (n := 1) (by decide)⟩) rfl ?_
  refine i_X8_0 (d := d + 21) h2 (fun c2 h3 => ?_)
  show WP K _ mL_law 108 4012 7 [(3, ((0 : Nat) : Int)), (9, 0), (9, 0), (9, 0)] [(2, 0)] (108, SH, c2) Q
  refine R_astore_n (L' := [(3, ((0 : Nat) : Int)), (2, 0), (9, 0), (9, 0)]) (pc' := 8) dL_law_7 (by decide) (by decide) rfl rfl rfl ?_
  refine R_new (pc' := 11) dL_law_8 (by decide) l_RL_10 w_ins_9 w_ini_LeavesRoomModel (Nat.le_of_ble_eq_true rfl) (Nat.le_of_ble_eq_true rfl) (okR_mk (n := 108) (by decide)) (okR_mk (n := 108) (by decide)) rfl ?_
  refine W_new (n := 108) (k := 154) (xi := 108) (n1 := 109) (kc1 := 109) (ks1 := 4090) h3 (by decide +kernel) (by decide +kernel) rfl rfl rfl rfl (fun c3 h4 => ?_)
  refine R_dup (pc' := 12) dL_law_11 (by simp) rfl ?_
  refine R_callI (vs := []) (st := [(2, 108)]) (x := 108) (pc' := 15) dL_law_12 l_RL_12 (by decide) rfl (by decide) (Nat.le_of_ble_eq_true rfl) (Nat.le_of_ble_eq_true rfl) (Or.inr ⟨okR_mk (n := 109) (by decide), okR_mk (n := 109) (by decide)⟩) rfl ?_
  refine i_X9_108 (d := d + 23) h4 (fun c4 h5 => ?_)
  show WP K _ mL_law 153 6290 15 [(3, ((0 : Nat) : Int)), (2, 0), (9, 0), (9, 0)] [(2, 108)] (153, SH, c4) Q
  refine R_astore_n (L' := [(3, ((0 : Nat) : Int)), (2, 0), (2, 108), (9, 0)]) (pc' := 16) dL_law_15 (by decide) (by decide) rfl rfl rfl ?_
  refine R_iconst (pc' := 17) dL_law_16 rfl ?_
  refine R_istore_n (L' := [(3, ((0 : Nat) : Int)), (2, 0), (2, 108), (0, 0)]) (pc' := 18) dL_law_17 (by decide) rfl rfl rfl ?_
  refine W_wG (fin_ok h5) ?_
  exact law_loop (d := d) (Nat.le_of_ble_eq_true rfl) (Nat.le_of_ble_eq_true rfl) hR hn (fun c' _ => h1 _) K.2.1 0 c4 (by omega) ⟨by decide, by omega⟩ (LI_0 h5)
abbrev FL : List Cond := flatC (Jvm.Cond.and given_1 narrow_1)
/-- a static row of ints, as the Statement gives it -/
theorem row_Z {args : Array Value} {s : State} {A : Nat → Prop} {C n : String} {N : Nat} {f : Nat → Int} (hs : ∀ w ∈ FL, w.before args s = true) (hN : N < 2 ^ 31) (h1 : Cond.arrayOf (.static C n "[I") .int ∈ FL) (h2 : Cond.eq (.length (.static C n "[I")) (.int (Int32.ofNat N)) ∈ FL) (h3 : ∀ j, j < N → Cond.eq (.elem (.static C n "[I") (.int (Int32.ofNat j))) (.int (Int32.ofInt (f j))) ∈ FL) (hl : (Cond.laysStatic C n "[I").before args s = true) (hi : (Cond.initialized C).before args s = true) (hA : ∀ a : Nat, a < s.heap.size → ¬ A a) : ∃ t : Nat, va_T .int t N (fun j => .int (Int32.ofInt (f j))) A s s.heap ∧ va_Z C n "[I" (.ref t) A s s.heap := by
  obtain ⟨t, e1, e2⟩ := va_Tof (tm := .static C n "[I") hN (hs _ h1) (va_eqt (hs _ h2)) (fun j hj => va_eqt (hs _ (h3 j hj))) hA
  exact ⟨t, e2, va_Zref hl hi e1 hA⟩
def tmS (i : Nat) : Term := .string RX4 (76 + 2 * i)
theorem SW_start {l : Launch} {s : State} {b L : Nat} {xs : Nat → Int32} (hL : L ≤ 3072) (hts : ∀ w ∈ lw_tbl, w.before #[Value.ref b] s = true) (hX : va_X b L xs s s.heap) (hbl : b < s.heap.size) (hgv : (Jvm.Cond.and given_1 narrow_1).before #[Value.ref b] s = true) : ∃ (ros : Nat → Nat) (fm : Value), ros 0 = b ∧ SW (l, L, fun j => (xs j).toInt) ros fm (fun q : Nat => s.heap.size ≤ q) s s.heap := by
  have hs : ∀ w ∈ FL, w.before #[Value.ref b] s = true := flat_of_before _ hgv
  have hA : ∀ a : Nat, a < s.heap.size → ¬ (s.heap.size ≤ a) := fun a h => Nat.not_le.mpr h
  obtain ⟨t1, a1, b1⟩ := row_Z (A := fun q : Nat => s.heap.size ≤ q) (C := "LeavesRoom$Table") (n := "SEAT_AFTER") (N := 6) (f := fun j => ([1, 2, 3, 4, 5, 0] : List Int).getD j 0) hs (by decide) (by decide +kernel) (by decide +kernel) (by decide +kernel) (hts _ (by decide +kernel)) (hts _ (by decide +kernel)) hA
  obtain ⟨t2, a2, b2⟩ := row_Z (A := fun q : Nat => s.heap.size ≤ q) (C := "LeavesRoom$Table") (n := "SEAT_AHEAD") (N := 6) (f := fun j => ([5, 0, 1, 2, 3, 4] : List Int).getD j 0) hs (by decide) (by decide +kernel) (by decide +kernel) (by decide +kernel) (hts _ (by decide +kernel)) (hts _ (by decide +kernel)) hA
  obtain ⟨t3, a3, b3⟩ := row_Z (A := fun q : Nat => s.heap.size ≤ q) (C := "LeavesRoom$Table") (n := "IS_SISTER") (N := 7) (f := fun j => ([0, 0, 0, 1, 0, 0, 1] : List Int).getD j 0) hs (by decide) (by decide +kernel) (by decide +kernel) (by decide +kernel) (hts _ (by decide +kernel)) (hts _ (by decide +kernel)) hA
  obtain ⟨t4, a4, b4⟩ := row_Z (A := fun q : Nat => s.heap.size ≤ q) (C := "LeavesRoom$Acts") (n := "BODIES") (N := 21) (f := fun j => ([10, 11, 12, 0, 20, 0, 30, 0, 0, 0, 0, 40, 50, 51, 0, 0, 0, 60, 71, 70, 0] : List Int).getD j 0) hs (by decide) (by decide +kernel) (by decide +kernel) (by decide +kernel) (hts _ (by decide +kernel)) (hts _ (by decide +kernel)) hA
  obtain ⟨t5, a5, b5⟩ := row_Z (A := fun q : Nat => s.heap.size ≤ q) (C := "LeavesRoom") (n := "KIND_ABOVE") (N := 7) (f := fun j => ([-1, 0, 0, 0, 1, 2, 3] : List Int).getD j 0) hs (by decide) (by decide +kernel) (by decide +kernel) (by decide +kernel) (hts _ (by decide +kernel)) (hts _ (by decide +kernel)) hA
  have hK : va_Z "java/lang/String" "COMPACT_STRINGS" "Z" (.int 1) (fun q : Nat => s.heap.size ≤ q) s s.heap := va_Zof (hts (.laysStatic "java/lang/String" "COMPACT_STRINGS" "Z") (by decide +kernel)) (hts (.initialized "java/lang/String") (by decide +kernel)) (va_eqi (hs (.eq (.static "java/lang/String" "COMPACT_STRINGS" "Z") (.int 1)) (by decide +kernel))) hA
  have hF : va_Zq "jdk/internal/util/Preconditions" "SIOOBE_FORMATTER" "Ljava/util/function/BiFunction;" (fun q : Nat => s.heap.size ≤ q) s s.heap := va_Zqof (hts (.laysStatic "jdk/internal/util/Preconditions" "SIOOBE_FORMATTER" "Ljava/util/function/BiFunction;") (by decide +kernel)) (hts (.initialized "jdk/internal/util/Preconditions") (by decide +kernel)) (hs (.isRef (.static "jdk/internal/util/Preconditions" "SIOOBE_FORMATTER" "Ljava/util/function/BiFunction;")) (by decide +kernel)) hA
  obtain ⟨fm, hfm, hF2⟩ : ∃ fm : Value, (fm = .null ∨ ∃ a, fm = .ref a) ∧ va_Z "jdk/internal/util/Preconditions" "SIOOBE_FORMATTER" "Ljava/util/function/BiFunction;" fm (fun q : Nat => s.heap.size ≤ q) s s.heap := by
    rcases hF with h | ⟨t, h⟩
    · exact ⟨.null, Or.inl rfl, h⟩
    · exact ⟨.ref t, Or.inr ⟨t, rfl⟩, h⟩
  have q1 : ∀ i : Nat, i < 4 → strLen.getD i 0 < 2 ^ 31 := by decide +kernel
  have q2 : ∀ i : Nat, i < 4 → Cond.exactly (tmS i) "java/lang/String" ∈ FL := by decide +kernel
  have q3 : ∀ i : Nat, i < 4 → Cond.eq (.field (tmS i) "java/lang/String" "coder" "B") (.int 0) ∈ FL := by decide +kernel
  have q4 : ∀ i : Nat, i < 4 → Cond.arrayOf (.field (tmS i) "java/lang/String" "value" "[B") .byte ∈ FL := by decide +kernel
  have q5 : ∀ i : Nat, i < 4 → Cond.eq (.length (.field (tmS i) "java/lang/String" "value" "[B")) (.int (Int32.ofNat (strLen.getD i 0))) ∈ FL := by decide +kernel
  have q6 : ∀ i : Nat, i < 4 → ∀ j : Nat, j < strLen.getD i 0 → Cond.eq (.elem (.field (tmS i) "java/lang/String" "value" "[B") (.int (Int32.ofNat j))) (.int ((strByt.getD i []).getD j 0)) ∈ FL := by decide +kernel
  have q7 : ∀ i : Nat, i < 4 → ∀ j : Nat, j < 4 → i ≠ j → (Cond.not (Cond.eq (tmS i) (tmS j)) ∈ FL ∨ Cond.not (Cond.eq (tmS j) (tmS i)) ∈ FL) := by decide +kernel
  have q8 : ∀ i : Nat, i < 4 → Cond.stringRef RX4 (76 + 2 * i) (strTx i) ∈ lw_tbl := by decide +kernel
  obtain ⟨adK, adV, vS, vE⟩ := vk_Sof (N := 4) (tm := tmS) (len := strLen) (byt := strByt) (A := fun q : Nat => s.heap.size ≤ q) q1 (fun i h => hs _ (q2 i h)) (fun i h => hs _ (q3 i h)) (fun i h => hs _ (q4 i h)) (fun i h => hs _ (q5 i h)) (fun i h j k => hs _ (q6 i h j k)) (fun i j h k n => (q7 i h j k n).imp (fun z => hs _ z) (fun z => hs _ z)) hA
  refine ⟨fun i => match i with | 0 => b | 1 => t1 | 2 => t2 | 3 => t3 | 4 => t4 | 5 => t5 | 6 => adK 0 | 7 => adK 1 | 8 => adK 2 | 9 => adK 3 | i => adV (i - 10), fm, rfl, ?_, ?_, hK, hF2, ⟨?_, ?_⟩, ?_, hfm, ?_⟩
  · intro i hi
    match i, hi with
    | 0, _ =>
      obtain ⟨scr, e1, e2, e3, e4, e5⟩ := hX
      refine ⟨scr, e1, e2, e3, Nat.le_of_eq e4.symm, by rw [e4]; rfl, fun j hj => ?_, hA b hbl⟩
      rw [e5 j hj]
      show some (Value.int (xs j)) = some (Value.int (Int32.ofInt (xs j).toInt))
      rw [Int32.ofInt_toInt]
    | 1, _ => exact a1
    | 2, _ => exact a2
    | 3, _ => exact a3
    | 4, _ => exact a4
    | 5, _ => exact a5
    | k + 6, h => exact absurd h (by omega)
  · intro i h1 hi
    match i, h1, hi with
    | 0, h, _ => exact absurd h (by omega)
    | 1, _, _ => exact b1
    | 2, _, _ => exact b2
    | 3, _, _ => exact b3
    | 4, _, _ => exact b4
    | 5, _, _ => exact b5
    | k + 6, _, h => exact absurd h (by omega)
  · intro i hi
    match i, hi with
    | 0, h => exact vS.1 0 h
    | 1, h => exact vS.1 1 h
    | 2, h => exact vS.1 2 h
    | 3, h => exact vS.1 3 h
    | k + 4, h => exact absurd h (by omega)
  · intro i j hi hj e
    refine vS.2 i j hi hj ?_
    match i, hi, j, hj, e with
    | 0, _, 0, _, e => exact e
    | 0, _, 1, _, e => exact e
    | 0, _, 2, _, e => exact e
    | 0, _, 3, _, e => exact e
    | 1, _, 0, _, e => exact e
    | 1, _, 1, _, e => exact e
    | 1, _, 2, _, e => exact e
    | 1, _, 3, _, e => exact e
    | 2, _, 0, _, e => exact e
    | 2, _, 1, _, e => exact e
    | 2, _, 2, _, e => exact e
    | 2, _, 3, _, e => exact e
    | 3, _, 0, _, e => exact e
    | 3, _, 1, _, e => exact e
    | 3, _, 2, _, e => exact e
    | 3, _, 3, _, e => exact e
    | k + 4, h, _, _, _ => exact absurd h (by omega)
    | _, _, k + 4, h, _ => exact absurd h (by omega)
  · intro i hi
    have hr : vk_R RX4 (76 + 2 * i) (strTx i) (adK i) s := vk_R.of (hts _ (q8 i hi)) (vE i hi)
    match i, hi, hr with
    | 0, _, h => exact h
    | 1, _, h => exact h
    | 2, _, h => exact h
    | 3, _, h => exact h
    | k + 4, h, _ => exact absurd h (by omega)
  · show L < 2 ^ 31
    omega
theorem arr_P {s : State} {ty : FieldType} {args : Array Value} (hp : ∀ C, ty ≠ .object C) (h : (Cond.arrayClass ty).before args s = true) : ∃ cA : ClassId, ArrOfT s cA ty ∧ va_RA s cA ty := by
  obtain ⟨cA, k, comp, h1, h2, h3⟩ := Cond.arrayClass_spec h
  refine ⟨cA, fun n z => ⟨fun k h => (by cases h), k, h2, comp, h3⟩, ?_⟩
  cases ty with
  | object C => exact absurd rfl (hp C)
  | _ => exact h1
theorem arr_O {s : State} {C : String} {args : Array Value} (h : (Cond.arrayOver (.object C)).before args s = true) : ∃ cA : ClassId, ArrOfT s cA (.object C) ∧ va_RA s cA (.object C) := by
  obtain ⟨comp, cA, k, h1, h2, h3, h4, h5⟩ := Cond.arrayOver_spec h
  exact ⟨cA, fun n z => ⟨fun k h => (by cases h), k, h3, comp, h4⟩, k, comp, h3, h4, h1, h5⟩
theorem K_start {s : State} {args : Array Value} (hts : ∀ w ∈ lw_tbl, w.before args s = true) : ∃ (D : va_G) (cA : Nat → ClassId), va_K D vwCl (tyl cA) s := by
  have htA : ∀ w ∈ wsA, w.before args s = true := fun w hw => hts w (List.mem_filter.mp hw).1
  have htN : ∀ w ∈ nestW, w.before args s = true := fun w hw => hts w (List.mem_filter.mp hw).1
  have ins : ∀ ci, ci < 10 → Cond.instantiable (clsN ci) (nflds ci) ∈ wsA
    | 0, _ => w_ins_0 | 1, _ => w_ins_1 | 2, _ => w_ins_2 | 3, _ => w_ins_3 | 4, _ => w_ins_4 | 5, _ => w_ins_5 | 6, _ => w_ins_6 | 7, _ => w_ins_7 | 8, _ => w_ins_8 | 9, _ => w_ins_9
    | k + 10, h => absurd h (by omega)
  have hk : ∀ ci, ci < 10 → ∃ (cC : ClassId) (iS : Nat → Nat), u_Kn s (clsN ci) (fldN ci) (nflds ci) cC iS := fun ci h => u_known htA (fld_in ci h) (htA _ (ins ci h))
  have hk2 : ∀ ci, ∃ q : ClassId × (Nat → Nat), ci < 10 → u_Kn s (clsN ci) (fldN ci) (nflds ci) q.1 q.2 := fun ci => by
    by_cases h : ci < 10
    · obtain ⟨a, b, q⟩ := hk ci h; exact ⟨(a, b), fun _ => q⟩
    · obtain ⟨a, b, q⟩ := hk 0 (by decide); exact ⟨(a, b), fun z => absurd z h⟩
  obtain ⟨D, hD⟩ := Classical.axiomOfChoice hk2
  obtain ⟨x0, y0, z0⟩ := arr_P (fun C h => by cases h) (htA _ w_ac_int)
  obtain ⟨x1, y1, z1⟩ := arr_P (fun C h => by cases h) (htA _ w_ac_boolean)
  obtain ⟨x2, y2, z2⟩ := arr_P (fun C h => by cases h) (htA _ w_ac_byte)
  obtain ⟨x3, y3, z3⟩ := arr_P (fun C h => by cases h) (htA _ w_ac_long)
  obtain ⟨x4, y4, z4⟩ := arr_O (htN _ w_ao_2)
  obtain ⟨x5, y5, z5⟩ := arr_O (htN _ w_ao_7)
  refine ⟨(fun i => (D i).1, fun i => (D i).2), fun k => match k with | 10 => x0 | 11 => x1 | 12 => x2 | 13 => x3 | 14 => x4 | _ => x5, fun k q hq => ?_, fun k q hq => ?_⟩
  · have h10 : k < 10 := (List.getElem?_eq_some_iff.mp hq).1
    rw [vwCl_at k h10] at hq
    cases hq
    exact hD k h10
  · match k, hq with
    | 0, hq => cases hq; exact ⟨y0, z0⟩
    | 1, hq => cases hq; exact ⟨y1, z1⟩
    | 2, hq => cases hq; exact ⟨y2, z2⟩
    | 3, hq => cases hq; exact ⟨y3, z3⟩
    | 4, hq => cases hq; exact ⟨y4, z4⟩
    | 5, hq => cases hq; exact ⟨y5, z5⟩
    | k + 6, hq => simp [tyl] at hq
theorem nest_start {s : State} {args : Array Value} (hts : ∀ w ∈ lw_tbl, w.before args s = true) : ∀ w ∈ nestW, va_Nw w s := by
  intro w hw
  obtain ⟨h1, h2⟩ := List.mem_filter.mp hw
  have h := hts w h1
  cases w with
  | fieldLinkNest => exact va_Nw.of rfl h
  | methodLinkNest => exact va_Nw.of rfl h
  | arrayOver t =>
    cases t with
    | object C => exact va_AO.of h
    | _ => exact absurd h2 (by simp [isNestW])
  | _ => exact absurd h2 (by simp [isNestW])
