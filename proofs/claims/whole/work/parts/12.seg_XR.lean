set_option maxRecDepth 100000 in
theorem s_X0_forget_0 {K : SK} {d : Nat} {c : ct} {Q : ct → Prop}  (h : ∀ c1 : ct, c1 = up2 c 4 1 0 → Q c1) : WV K (d + 1) mX0_forget 0 [(2, 4)] [] c Q := by
  refine R_aload_n (pc' := 1) dX0_forget_0 rfl i4.1 rfl ?_
  refine R_iconst (pc' := 2) dX0_forget_1 rfl ?_
  refine Q_putfi (J := 1) (pc' := 5) rfl dX0_forget_2 l_RX0_15 i4 fd0_1.1 fd0_1.2.1 fd0_1.2.2.2.1 fd0_1.2.2.2.2 rfl (fun c1 hc1 => ?_)
  have h := h c1 hc1
  exact Q_ret dX0_forget_5 rfl h
theorem e_X0_forget {K : SK} {d : Nat} {c : ct} {Q : ct → Prop}  (h : WV K (d + 1) mX0_forget 0 [(2, 4)] [] c Q) : CV K (d + 1) mX0_forget [(2, 4)] c Q := CM_ofS (by decide) (Nat.le_of_ble_eq_true rfl) _ rfl h
set_option maxRecDepth 100000 in
theorem s_X0_kept_0 {K : SK} {d : Nat} {c : ct} {Q : ct → Int → Prop}  (h : (ir (c 4 1)) ∧ Q c (if 20 < (c 4 1) then 20 else (c 4 1))) : WI K (d + 1) mX0_kept 0 [(2, 4)] [] c Q := by
  refine R_aload_n (pc' := 1) dX0_kept_0 rfl i4.1 rfl ?_
  refine Q_getfi (J := 1) (pc' := 4) rfl dX0_kept_1 l_RX0_15 i4 fd0_1.1 fd0_1.2.1 fd0_1.2.2.1 rfl ?_
  refine R_bipush (pc' := 6) dX0_kept_4 (by decide) rfl ?_
  have hs1 := h.1
  have h := h.2
  refine R_mmin (pc' := 9) dX0_kept_6 (by omega) hs1 (ir_l (by decide) (by decide)) (Nat.le_of_ble_eq_true rfl) (Nat.zero_le _) (Nat.zero_le _) l_RX0_19 w_mmins w_ini_java_lang_Math w_mminc rfl ?_
  exact Q_iret dX0_kept_9 rfl h
theorem e_X0_kept {K : SK} {d : Nat} {c : ct} {Q : ct → Int → Prop}  (h : WI K (d + 1) mX0_kept 0 [(2, 4)] [] c Q) : CI K (d + 1) mX0_kept [(2, 4)] c Q := CM_ofS (by decide) (Nat.le_of_ble_eq_true rfl) _ rfl h
set_option maxRecDepth 100000 in
theorem s_X0_begin_0 {K : SK} {d : Nat} {c : ct} {Q : ct → Int → Prop} (a1 : Int) (a2 : Int) (a3 : Int) (a4 : Int) (a5 : Int) (h : CV K d mX0_forget [(2, 4)] c (fun c1 => ∀ c3 : ct, c3 = up2 c1 4 2 a1 → ∀ c4 : ct, c4 = up2 c3 4 3 a2 → ∀ c5 : ct, c5 = up2 c4 4 4 a3 → CI K d mX0_own [(2, 4), (0, a4), (0, a5), (0, 0)] c5 (fun c6 r7 => Q c6 r7))) : WI K (d + 1) mX0_begin 0 [(2, 4), (0, a1), (0, a2), (0, a3), (0, a4), (0, a5)] [] c Q := by
  refine R_aload_n (pc' := 1) dX0_begin_0 rfl i4.1 rfl ?_
  refine Q_callVV (vs := []) (st := []) (pc' := 4) dX0_begin_1 l_RX0_25 i4 (by decide) rfl rfl (Nat.le_of_ble_eq_true rfl) rfl (Nat.zero_le _) (Nat.zero_le _) rfl ?_
  refine CV.mono h (fun c1 h => ?_)
  refine R_aload_n (pc' := 5) dX0_begin_4 rfl i4.1 rfl ?_
  refine R_iload_n (pc' := 6) dX0_begin_5 rfl rfl ?_
  refine Q_putfi (J := 2) (pc' := 9) rfl dX0_begin_6 l_RX0_28 i4 fd0_2.1 fd0_2.2.1 fd0_2.2.2.2.1 fd0_2.2.2.2.2 rfl (fun c3 hc3 => ?_)
  have h := h c3 hc3
  refine R_aload_n (pc' := 10) dX0_begin_9 rfl i4.1 rfl ?_
  refine R_iload_n (pc' := 11) dX0_begin_10 rfl rfl ?_
  refine Q_putfi (J := 3) (pc' := 14) rfl dX0_begin_11 l_RX0_31 i4 fd0_3.1 fd0_3.2.1 fd0_3.2.2.2.1 fd0_3.2.2.2.2 rfl (fun c4 hc4 => ?_)
  have h := h c4 hc4
  refine R_aload_n (pc' := 15) dX0_begin_14 rfl i4.1 rfl ?_
  refine R_iload_n (pc' := 16) dX0_begin_15 rfl rfl ?_
  refine Q_putfi (J := 4) (pc' := 19) rfl dX0_begin_16 l_RX0_34 i4 fd0_4.1 fd0_4.2.1 fd0_4.2.2.2.1 fd0_4.2.2.2.2 rfl (fun c5 hc5 => ?_)
  have h := h c5 hc5
  refine R_aload_n (pc' := 20) dX0_begin_19 rfl i4.1 rfl ?_
  refine R_iload (pc' := 22) dX0_begin_20 rfl rfl ?_
  refine R_iload (pc' := 24) dX0_begin_22 rfl rfl ?_
  refine R_iconst (pc' := 25) dX0_begin_24 rfl ?_
  refine Q_callVI (vs := [(0, a4), (0, a5), (0, 0)]) (st := []) (pc' := 28) dX0_begin_25 l_RX0_37 i4 (by decide) rfl rfl (Nat.le_of_ble_eq_true rfl) rfl (Nat.zero_le _) (Nat.zero_le _) rfl ?_
  refine CI.mono h (fun c6 r7 h => ?_)
  exact Q_iret dX0_begin_28 rfl h
theorem e_X0_begin {K : SK} {d : Nat} {c : ct} {Q : ct → Int → Prop} (a1 : Int) (a2 : Int) (a3 : Int) (a4 : Int) (a5 : Int) (h : WI K (d + 1) mX0_begin 0 [(2, 4), (0, a1), (0, a2), (0, a3), (0, a4), (0, a5)] [] c Q) : CI K (d + 1) mX0_begin [(2, 4), (0, a1), (0, a2), (0, a3), (0, a4), (0, a5)] c Q := CM_ofS (by decide) (Nat.le_of_ble_eq_true rfl) _ rfl h
set_option maxRecDepth 100000 in
theorem s_X0_own_0 {K : SK} {d : Nat} {c : ct} {Q : ct → Int → Prop} (a1 : Int) (a2 : Int) (a3 : Int) (h : CI K d mX0_from [(2, 4), (0, (c 4 2)), (0, a1), (0, a2), (0, a3)] c (fun c1 r2 => Q c1 r2)) : WI K (d + 1) mX0_own 0 [(2, 4), (0, a1), (0, a2), (0, a3)] [] c Q := by
  refine R_aload_n (pc' := 1) dX0_own_0 rfl i4.1 rfl ?_
  refine R_aload_n (pc' := 2) dX0_own_1 rfl i4.1 rfl ?_
  refine Q_getfi (J := 2) (pc' := 5) rfl dX0_own_2 l_RX0_28 i4 fd0_2.1 fd0_2.2.1 fd0_2.2.2.1 rfl ?_
  refine R_iload_n (pc' := 6) dX0_own_5 rfl rfl ?_
  refine R_iload_n (pc' := 7) dX0_own_6 rfl rfl ?_
  refine R_iload_n (pc' := 8) dX0_own_7 rfl rfl ?_
  refine Q_callVI (vs := [(0, (c 4 2)), (0, a1), (0, a2), (0, a3)]) (st := []) (pc' := 11) dX0_own_8 l_RX0_41 i4 (by decide) rfl rfl (Nat.le_of_ble_eq_true rfl) rfl (Nat.zero_le _) (Nat.zero_le _) rfl ?_
  refine CI.mono h (fun c1 r2 h => ?_)
  exact Q_iret dX0_own_11 rfl h
theorem e_X0_own {K : SK} {d : Nat} {c : ct} {Q : ct → Int → Prop} (a1 : Int) (a2 : Int) (a3 : Int) (h : WI K (d + 1) mX0_own 0 [(2, 4), (0, a1), (0, a2), (0, a3)] [] c Q) : CI K (d + 1) mX0_own [(2, 4), (0, a1), (0, a2), (0, a3)] c Q := CM_ofS (by decide) (Nat.le_of_ble_eq_true rfl) _ rfl h
set_option maxRecDepth 100000 in
theorem s_X0_from_0 {K : SK} {d : Nat} {c : ct} {Q : ct → Int → Prop} (a1 : Int) (a2 : Int) (a3 : Int) (a4 : Int) (h : WI K (d + 1) mX0_from 6 [(2, 4), (9, 0), (0, a2), (0, a3), (0, a4), (0, a1), (0, 0)] [] c Q) : WI K (d + 1) mX0_from 0 [(2, 4), (0, a1), (0, a2), (0, a3), (0, a4), (9, 0), (9, 0)] [] c Q := by
  refine R_iload_n (pc' := 1) dX0_from_0 rfl rfl ?_
  refine R_istore (L' := [_, _, _, _, _, _, _]) (pc' := 3) dX0_from_1 (by decide) rfl rfl rfl ?_
  refine R_iconst (pc' := 4) dX0_from_3 rfl ?_
  refine R_istore (L' := [_, _, _, _, _, _, _]) (pc' := 6) dX0_from_4 (by decide) rfl rfl rfl ?_
  exact WP_wk (wk_e (wk_u (wk_e (wk_e (wk_e (wk_e (wk_e wk_n))))))) h
set_option maxRecDepth 100000 in
theorem s_X0_from_6 {K : SK} {d : Nat} {c : ct} {Q : ct → Int → Prop} (a2 : Int) (a3 : Int) (a4 : Int) (a5 : Int) (a6 : Int) (h : (ir a6) ∧ (7 ≤ a6 → WI K (d + 1) mX0_from 45 [(2, 4), (9, 0), (0, a2), (0, a3), (0, a4), (0, a5), (9, 0)] [] c Q) ∧ (¬ (7 ≤ a6) → (ir a5) ∧ (a5 ≤ 0 → WI K (d + 1) mX0_from 45 [(2, 4), (9, 0), (0, a2), (0, a3), (0, a4), (0, a5), (9, 0)] [] c Q) ∧ (¬ (a5 ≤ 0) → ((0 ≤ ((a5 * 3) + a2) ∧ ((a5 * 3) + a2) < 21)) ∧ ((roC K 4 (Int.toNat ((a5 * 3) + a2))) = 0 → ((0 ≤ a5 ∧ a5 < 7)) ∧ WI K (d + 1) mX0_from 6 [(2, 4), (9, 0), (0, a2), (0, a3), (0, a4), (0, (roC K 5 (Int.toNat a5))), (0, (a6 + 1))] [] c Q) ∧ (¬ ((roC K 4 (Int.toNat ((a5 * 3) + a2))) = 0) → ir (roC K 4 (Int.toNat ((a5 * 3) + a2))) ∧ WI K (d + 1) mX0_from 45 [(2, 4), (9, 0), (0, a2), (0, a3), (0, a4), (0, a5), (9, 0)] [] c Q)))) : WI K (d + 1) mX0_from 6 [(2, 4), (9, 0), (0, a2), (0, a3), (0, a4), (0, a5), (0, a6)] [] c Q := by
  refine R_iload (pc' := 8) dX0_from_6 rfl rfl ?_
  refine R_bipush (pc' := 10) dX0_from_8 (by decide) rfl ?_
  have hs2 := h.1
  have h := h.2
  refine R_icmp_ge (tgt := 45) (pc' := 13) dX0_from_10 (by decide) hs2 (ir_l (by decide) (by decide)) rfl (fun hc1 => ?_) (fun hc1 => ?_)
  · have h := h.1 hc1
    exact WP_wk (wk_e (wk_u (wk_e (wk_e (wk_e (wk_e (wk_u wk_n))))))) h
  · have h := h.2 hc1
    refine R_iload (pc' := 15) dX0_from_13 rfl rfl ?_
    have hs4 := h.1
    have h := h.2
    refine R_if_le (tgt := 45) (pc' := 18) dX0_from_15 (by decide) hs4  rfl (fun hc3 => ?_) (fun hc3 => ?_)
    · have h := h.1 hc3
      exact WP_wk (wk_e (wk_u (wk_e (wk_e (wk_e (wk_e (wk_u wk_n))))))) h
    · have h := h.2 hc3
      refine R_gets (i := 4) (pc' := 21) dX0_from_18 l_RX0_45 (by decide) (by decide) rfl ?_
      refine R_iload (pc' := 23) dX0_from_21 rfl rfl ?_
      refine R_iconst (pc' := 24) dX0_from_23 rfl ?_
      refine R_imul (pc' := 25) dX0_from_24 rfl ?_
      refine R_iload_n (pc' := 26) dX0_from_25 rfl rfl ?_
      refine R_iadd (pc' := 27) dX0_from_26 rfl ?_
      have hs5 := h.1
      have h := h.2
      refine Q_roload (i := 4) (N := 21) (pc' := 28) rfl dX0_from_27 (by decide) hs5 rfl ?_
      by_cases hc6 : (roC K 4 (Int.toNat ((a5 * 3) + a2))) = 0
      · have h := h.1 hc6
        refine R_neS_if (tgt := 45) (pc' := 31) dX0_from_28 (by decide) hc6 rfl ?_
        refine R_getsN (i := 5) (pc' := 34) dX0_from_31 l_RX0_48 (by decide) (by decide) rfl ?_
        refine R_iload (pc' := 36) dX0_from_34 rfl rfl ?_
        have hs7 := h.1
        have h := h.2
        refine Q_roload (i := 5) (N := 7) (pc' := 37) rfl dX0_from_36 (by decide) hs7 rfl ?_
        refine R_istore (L' := [_, _, _, _, _, _, _]) (pc' := 39) dX0_from_37 (by decide) rfl rfl rfl ?_
        refine R_iinc (L' := [_, _, _, _, _, _, _]) (pc' := 42) dX0_from_39 rfl (by decide) rfl rfl rfl ?_
        refine R_goto (tgt := 6) dX0_from_42 (by decide) ?_
        exact WP_wk (wk_e (wk_u (wk_e (wk_e (wk_e (wk_e (wk_e wk_n))))))) h
      · have h := h.2 hc6
        refine R_neD_if (tgt := 45) (pc' := 31) dX0_from_28 (by decide) hc6 h.1 rfl ?_
        have h := h.2
        exact WP_wk (wk_e (wk_u (wk_e (wk_e (wk_e (wk_e (wk_u wk_n))))))) h
set_option maxRecDepth 100000 in
theorem s_X0_from_45 {K : SK} {d : Nat} {c : ct} {Q : ct → Int → Prop} (a2 : Int) (a3 : Int) (a4 : Int) (a5 : Int) (h : (ir a5) ∧ (a5 < 0 → Q c 0) ∧ (¬ (a5 < 0) → (ir a4) ∧ (a4 ≤ 40 → ((0 ≤ ((a5 * 3) + a2) ∧ ((a5 * 3) + a2) < 21)) ∧ CI K d mX0_runBody [(2, 4), (0, (roC K 4 (Int.toNat ((a5 * 3) + a2)))), (0, a3), (0, (a4 + 1))] c (fun c6 r7 => Q c6 r7)) ∧ (¬ (a4 ≤ 40) → Q c 0))) : WI K (d + 1) mX0_from 45 [(2, 4), (9, 0), (0, a2), (0, a3), (0, a4), (0, a5), (9, 0)] [] c Q := by
  refine R_iload (pc' := 47) dX0_from_45 rfl rfl ?_
  have hs2 := h.1
  have h := h.2
  refine R_if_lt (tgt := 57) (pc' := 50) dX0_from_47 (by decide) hs2  rfl (fun hc1 => ?_) (fun hc1 => ?_)
  · have h := h.1 hc1
    refine R_iconst (pc' := 58) dX0_from_57 rfl ?_
    exact Q_iret dX0_from_58 rfl h
  · have h := h.2 hc1
    refine R_iload (pc' := 52) dX0_from_50 rfl rfl ?_
    refine R_bipush (pc' := 54) dX0_from_52 (by decide) rfl ?_
    have hs4 := h.1
    have h := h.2
    refine R_icmp_le (tgt := 59) (pc' := 57) dX0_from_54 (by decide) hs4 (ir_l (by decide) (by decide)) rfl (fun hc3 => ?_) (fun hc3 => ?_)
    · have h := h.1 hc3
      refine R_aload_n (pc' := 60) dX0_from_59 rfl i4.1 rfl ?_
      refine R_gets (i := 4) (pc' := 63) dX0_from_60 l_RX0_45 (by decide) (by decide) rfl ?_
      refine R_iload (pc' := 65) dX0_from_63 rfl rfl ?_
      refine R_iconst (pc' := 66) dX0_from_65 rfl ?_
      refine R_imul (pc' := 67) dX0_from_66 rfl ?_
      refine R_iload_n (pc' := 68) dX0_from_67 rfl rfl ?_
      refine R_iadd (pc' := 69) dX0_from_68 rfl ?_
      have hs5 := h.1
      have h := h.2
      refine Q_roload (i := 4) (N := 21) (pc' := 70) rfl dX0_from_69 (by decide) hs5 rfl ?_
      refine R_iload_n (pc' := 71) dX0_from_70 rfl rfl ?_
      refine R_iload (pc' := 73) dX0_from_71 rfl rfl ?_
      refine R_iconst (pc' := 74) dX0_from_73 rfl ?_
      refine R_iadd (pc' := 75) dX0_from_74 rfl ?_
      refine Q_callVI (vs := [(0, (roC K 4 (Int.toNat ((a5 * 3) + a2)))), (0, a3), (0, (a4 + 1))]) (st := []) (pc' := 78) dX0_from_75 l_RX0_51 i4 (by decide) rfl rfl (Nat.le_of_ble_eq_true rfl) rfl (Nat.zero_le _) (Nat.zero_le _) rfl ?_
      refine CI.mono h (fun c6 r7 h => ?_)
      exact Q_iret dX0_from_78 rfl h
    · have h := h.2 hc3
      refine R_iconst (pc' := 58) dX0_from_57 rfl ?_
      exact Q_iret dX0_from_58 rfl h
theorem e_X0_from {K : SK} {d : Nat} {c : ct} {Q : ct → Int → Prop} (a1 : Int) (a2 : Int) (a3 : Int) (a4 : Int) (h : WI K (d + 1) mX0_from 0 [(2, 4), (0, a1), (0, a2), (0, a3), (0, a4), (9, 0), (9, 0)] [] c Q) : CI K (d + 1) mX0_from [(2, 4), (0, a1), (0, a2), (0, a3), (0, a4)] c Q := CM_ofS (by decide) (Nat.le_of_ble_eq_true rfl) _ rfl h
set_option maxRecDepth 100000 in
theorem s_X0_runBody_0 {K : SK} {d : Nat} {c : ct} {Q : ct → Int → Prop} (a1 : Int) (a2 : Int) (a3 : Int) (h : (ir (c 4 1)) ∧ (20 ≤ (c 4 1) → WI K (d + 1) mX0_runBody 19 [(2, 4), (0, a1), (0, a2), (0, a3)] [] c Q) ∧ (¬ (20 ≤ (c 4 1)) → ((0 ≤ (c 4 1) ∧ (c 4 1) < 20)) ∧ ∀ c3 : ct, c3 = up2 c 5 (c 4 1) a1 → WI K (d + 1) mX0_runBody 19 [(2, 4), (0, a1), (0, a2), (0, a3)] [] c3 Q)) : WI K (d + 1) mX0_runBody 0 [(2, 4), (0, a1), (0, a2), (0, a3)] [] c Q := by
  refine R_aload_n (pc' := 1) dX0_runBody_0 rfl i4.1 rfl ?_
  refine Q_getfi (J := 1) (pc' := 4) rfl dX0_runBody_1 l_RX0_15 i4 fd0_1.1 fd0_1.2.1 fd0_1.2.2.1 rfl ?_
  refine R_bipush (pc' := 6) dX0_runBody_4 (by decide) rfl ?_
  have hs2 := h.1
  have h := h.2
  refine R_icmp_ge (tgt := 19) (pc' := 9) dX0_runBody_6 (by decide) hs2 (ir_l (by decide) (by decide)) rfl (fun hc1 => ?_) (fun hc1 => ?_)
  · have h := h.1 hc1
    exact WP_wk (wk_e (wk_e (wk_e (wk_e wk_n)))) h
  · have h := h.2 hc1
    refine R_aload_n (pc' := 10) dX0_runBody_9 rfl i4.1 rfl ?_
    refine Q_getfr (v := 5) (J := 0) (pc' := 13) rfl dX0_runBody_10 l_RX0_11 i4 fd0_0.1 fd0_0.2.1 fd0_0.2.2.1 fd0_0.2.2.2 f4_0 rfl ?_
    refine R_aload_n (pc' := 14) dX0_runBody_13 rfl i4.1 rfl ?_
    refine Q_getfi (J := 1) (pc' := 17) rfl dX0_runBody_14 l_RX0_15 i4 fd0_1.1 fd0_1.2.1 fd0_1.2.2.1 rfl ?_
    refine R_iload_n (pc' := 18) dX0_runBody_17 rfl rfl ?_
    have hs4 := h.1
    have h := h.2
    refine Q_iastore (N := 20) (pc' := 19) rfl dX0_runBody_18 i5 (by decide) hs4  rfl (fun c3 hc3 => ?_)
    have h := h c3 hc3
    exact WP_wk (wk_e (wk_e (wk_e (wk_e wk_n)))) h
set_option maxRecDepth 100000 in
theorem s_X0_runBody_19 {K : SK} {d : Nat} {c : ct} {Q : ct → Int → Prop} (a1 : Int) (a2 : Int) (a3 : Int) (h : ∀ c1 : ct, c1 = up2 c 4 1 ((c 4 1) + 1) → ir a1 ∧ (a1 = 10 → Q c1 (a2 + (c1 4 4))) ∧ (a1 = 11 → CI K d mX0_own [(2, 4), (0, 0), (0, a2), (0, a3)] c1 (fun c4 r5 => Q c4 (r5 - (c4 4 3)))) ∧ (a1 = 12 → CI K d mX0_own [(2, 4), (0, 1), (0, a2), (0, a3)] c1 (fun c7 r8 => Q c7 (r8 * 2))) ∧ (a1 = 20 → CI K d mX0_from [(2, 4), (0, 0), (0, 1), (0, a2), (0, a3)] c1 (fun c10 r11 => Q c10 (bXor r11 6))) ∧ (a1 = 30 → CI K d mX0_from [(2, 4), (0, 0), (0, 0), (0, (a2 * 3)), (0, a3)] c1 (fun c13 r14 => Q c13 r14)) ∧ (a1 = 40 → CI K d mX0_from [(2, 4), (0, 0), (0, 2), (0, a2), (0, a3)] c1 (fun c16 r17 => CI K d mX0_own [(2, 4), (0, 1), (0, 1), (0, a3)] c16 (fun c18 r19 => Q c18 (r17 + r19)))) ∧ (a1 = 50 → CI K d mX0_from [(2, 4), (0, 1), (0, 0), (0, a2), (0, a3)] c1 (fun c21 r22 => Q c21 (-r22))) ∧ (a1 = 51 → CI K d mX0_from [(2, 4), (0, 1), (0, 1), (0, (a2 + 1)), (0, a3)] c1 (fun c24 r25 => Q c24 r25)) ∧ (a1 = 60 → CI K d mX0_from [(2, 4), (0, 2), (0, 2), (0, (a2 - (c1 4 4))), (0, a3)] c1 (fun c27 r28 => Q c27 r28)) ∧ (a1 = 70 → CI K d mX0_from [(2, 4), (0, 3), (0, 1), (0, a2), (0, a3)] c1 (fun c30 r31 => CI K d mX0_from [(2, 4), (0, 3), (0, 0), (0, 2), (0, a3)] c30 (fun c32 r33 => Q c32 (r31 + r33)))) ∧ (a1 = 71 → CI K d mX0_from [(2, 4), (0, 3), (0, 0), (0, a2), (0, a3)] c1 (fun c35 r36 => Q c35 (bXor r36 (c35 4 3)))) ∧ ((¬ a1 = 10 ∧ ¬ a1 = 11 ∧ ¬ a1 = 12 ∧ ¬ a1 = 20 ∧ ¬ a1 = 30 ∧ ¬ a1 = 40 ∧ ¬ a1 = 50 ∧ ¬ a1 = 51 ∧ ¬ a1 = 60 ∧ ¬ a1 = 70 ∧ ¬ a1 = 71) → Q c1 0)) : WI K (d + 1) mX0_runBody 19 [(2, 4), (0, a1), (0, a2), (0, a3)] [] c Q := by
  refine R_aload_n (pc' := 20) dX0_runBody_19 rfl i4.1 rfl ?_
  refine R_dup (pc' := 21) dX0_runBody_20 (by simp) rfl ?_
  refine Q_getfi (J := 1) (pc' := 24) rfl dX0_runBody_21 l_RX0_15 i4 fd0_1.1 fd0_1.2.1 fd0_1.2.2.1 rfl ?_
  refine R_iconst (pc' := 25) dX0_runBody_24 rfl ?_
  refine R_iadd (pc' := 26) dX0_runBody_25 rfl ?_
  refine Q_putfi (J := 1) (pc' := 29) rfl dX0_runBody_26 l_RX0_15 i4 fd0_1.1 fd0_1.2.1 fd0_1.2.2.2.1 fd0_1.2.2.2.2 rfl (fun c1 hc1 => ?_)
  have h := h c1 hc1
  refine R_iload_n (pc' := 30) dX0_runBody_29 rfl rfl ?_
  have hs0 := h.1
  have h := h.2
  rcases (show a1 = 10 ∨ a1 = 11 ∨ a1 = 12 ∨ a1 = 20 ∨ a1 = 30 ∨ a1 = 40 ∨ a1 = 50 ∨ a1 = 51 ∨ a1 = 60 ∨ a1 = 70 ∨ a1 = 71 ∨ (¬ a1 = 10 ∧ ¬ a1 = 11 ∧ ¬ a1 = 12 ∧ ¬ a1 = 20 ∧ ¬ a1 = 30 ∧ ¬ a1 = 40 ∧ ¬ a1 = 50 ∧ ¬ a1 = 51 ∧ ¬ a1 = 60 ∧ ¬ a1 = 70 ∧ ¬ a1 = 71) by omega) with hk | hk | hk | hk | hk | hk | hk | hk | hk | hk | hk | hk
  · have h := h.1 hk
    refine R_look (tgt := 128) (off := 98) dX0_runBody_30 (by decide) (by rw [hk]; exact ir_l (by decide) (by decide)) (by rw [hk]; first | done | decide) (by decide) ?_
    refine R_iload_n (pc' := 129) dX0_runBody_128 rfl rfl ?_
    refine R_aload_n (pc' := 130) dX0_runBody_129 rfl i4.1 rfl ?_
    refine Q_getfi (J := 4) (pc' := 133) rfl dX0_runBody_130 l_RX0_34 i4 fd0_4.1 fd0_4.2.1 fd0_4.2.2.1 rfl ?_
    refine R_iadd (pc' := 134) dX0_runBody_133 rfl ?_
    exact Q_iret dX0_runBody_134 rfl h
  · have h := h.2.1 hk
    refine R_look (tgt := 135) (off := 105) dX0_runBody_30 (by decide) (by rw [hk]; exact ir_l (by decide) (by decide)) (by rw [hk]; first | done | decide) (by decide) ?_
    refine R_aload_n (pc' := 136) dX0_runBody_135 rfl i4.1 rfl ?_
    refine R_iconst (pc' := 137) dX0_runBody_136 rfl ?_
    refine R_iload_n (pc' := 138) dX0_runBody_137 rfl rfl ?_
    refine R_iload_n (pc' := 139) dX0_runBody_138 rfl rfl ?_
    refine Q_callVI (vs := [(0, 0), (0, a2), (0, a3)]) (st := []) (pc' := 142) dX0_runBody_139 l_RX0_37 i4 (by decide) rfl rfl (Nat.le_of_ble_eq_true rfl) rfl (Nat.zero_le _) (Nat.zero_le _) rfl ?_
    refine CI.mono h (fun c4 r5 h => ?_)
    refine R_aload_n (pc' := 143) dX0_runBody_142 rfl i4.1 rfl ?_
    refine Q_getfi (J := 3) (pc' := 146) rfl dX0_runBody_143 l_RX0_31 i4 fd0_3.1 fd0_3.2.1 fd0_3.2.2.1 rfl ?_
    refine R_isub (pc' := 147) dX0_runBody_146 rfl ?_
    exact Q_iret dX0_runBody_147 rfl h
  · have h := h.2.2.1 hk
    refine R_look (tgt := 148) (off := 118) dX0_runBody_30 (by decide) (by rw [hk]; exact ir_l (by decide) (by decide)) (by rw [hk]; first | done | decide) (by decide) ?_
    refine R_aload_n (pc' := 149) dX0_runBody_148 rfl i4.1 rfl ?_
    refine R_iconst (pc' := 150) dX0_runBody_149 rfl ?_
    refine R_iload_n (pc' := 151) dX0_runBody_150 rfl rfl ?_
    refine R_iload_n (pc' := 152) dX0_runBody_151 rfl rfl ?_
    refine Q_callVI (vs := [(0, 1), (0, a2), (0, a3)]) (st := []) (pc' := 155) dX0_runBody_152 l_RX0_37 i4 (by decide) rfl rfl (Nat.le_of_ble_eq_true rfl) rfl (Nat.zero_le _) (Nat.zero_le _) rfl ?_
    refine CI.mono h (fun c7 r8 h => ?_)
    refine R_iconst (pc' := 156) dX0_runBody_155 rfl ?_
    refine R_imul (pc' := 157) dX0_runBody_156 rfl ?_
    exact Q_iret dX0_runBody_157 rfl h
  · have h := h.2.2.2.1 hk
    refine R_look (tgt := 158) (off := 128) dX0_runBody_30 (by decide) (by rw [hk]; exact ir_l (by decide) (by decide)) (by rw [hk]; first | done | decide) (by decide) ?_
    refine R_aload_n (pc' := 159) dX0_runBody_158 rfl i4.1 rfl ?_
    refine R_iconst (pc' := 160) dX0_runBody_159 rfl ?_
    refine R_iconst (pc' := 161) dX0_runBody_160 rfl ?_
    refine R_iload_n (pc' := 162) dX0_runBody_161 rfl rfl ?_
    refine R_iload_n (pc' := 163) dX0_runBody_162 rfl rfl ?_
    refine Q_callVI (vs := [(0, 0), (0, 1), (0, a2), (0, a3)]) (st := []) (pc' := 166) dX0_runBody_163 l_RX0_41 i4 (by decide) rfl rfl (Nat.le_of_ble_eq_true rfl) rfl (Nat.zero_le _) (Nat.zero_le _) rfl ?_
    refine CI.mono h (fun c10 r11 h => ?_)
    refine R_bipush (pc' := 168) dX0_runBody_166 (by decide) rfl ?_
    refine R_ixor (pc' := 169) dX0_runBody_168 rfl ?_
    exact Q_iret dX0_runBody_169 rfl h
  · have h := h.2.2.2.2.1 hk
    refine R_look (tgt := 170) (off := 140) dX0_runBody_30 (by decide) (by rw [hk]; exact ir_l (by decide) (by decide)) (by rw [hk]; first | done | decide) (by decide) ?_
    refine R_aload_n (pc' := 171) dX0_runBody_170 rfl i4.1 rfl ?_
    refine R_iconst (pc' := 172) dX0_runBody_171 rfl ?_
    refine R_iconst (pc' := 173) dX0_runBody_172 rfl ?_
    refine R_iload_n (pc' := 174) dX0_runBody_173 rfl rfl ?_
    refine R_iconst (pc' := 175) dX0_runBody_174 rfl ?_
    refine R_imul (pc' := 176) dX0_runBody_175 rfl ?_
    refine R_iload_n (pc' := 177) dX0_runBody_176 rfl rfl ?_
    refine Q_callVI (vs := [(0, 0), (0, 0), (0, (a2 * 3)), (0, a3)]) (st := []) (pc' := 180) dX0_runBody_177 l_RX0_41 i4 (by decide) rfl rfl (Nat.le_of_ble_eq_true rfl) rfl (Nat.zero_le _) (Nat.zero_le _) rfl ?_
    refine CI.mono h (fun c13 r14 h => ?_)
    exact Q_iret dX0_runBody_180 rfl h
  · have h := h.2.2.2.2.2.1 hk
    refine R_look (tgt := 181) (off := 151) dX0_runBody_30 (by decide) (by rw [hk]; exact ir_l (by decide) (by decide)) (by rw [hk]; first | done | decide) (by decide) ?_
    refine R_aload_n (pc' := 182) dX0_runBody_181 rfl i4.1 rfl ?_
    refine R_iconst (pc' := 183) dX0_runBody_182 rfl ?_
    refine R_iconst (pc' := 184) dX0_runBody_183 rfl ?_
    refine R_iload_n (pc' := 185) dX0_runBody_184 rfl rfl ?_
    refine R_iload_n (pc' := 186) dX0_runBody_185 rfl rfl ?_
    refine Q_callVI (vs := [(0, 0), (0, 2), (0, a2), (0, a3)]) (st := []) (pc' := 189) dX0_runBody_186 l_RX0_41 i4 (by decide) rfl rfl (Nat.le_of_ble_eq_true rfl) rfl (Nat.zero_le _) (Nat.zero_le _) rfl ?_
    refine CI.mono h (fun c16 r17 h => ?_)
    refine R_aload_n (pc' := 190) dX0_runBody_189 rfl i4.1 rfl ?_
    refine R_iconst (pc' := 191) dX0_runBody_190 rfl ?_
    refine R_iconst (pc' := 192) dX0_runBody_191 rfl ?_
    refine R_iload_n (pc' := 193) dX0_runBody_192 rfl rfl ?_
    refine Q_callVI (vs := [(0, 1), (0, 1), (0, a3)]) (st := [(0, r17)]) (pc' := 196) dX0_runBody_193 l_RX0_37 i4 (by decide) rfl rfl (Nat.le_of_ble_eq_true rfl) rfl (Nat.zero_le _) (Nat.zero_le _) rfl ?_
    refine CI.mono h (fun c18 r19 h => ?_)
    refine R_iadd (pc' := 197) dX0_runBody_196 rfl ?_
    exact Q_iret dX0_runBody_197 rfl h
  · have h := h.2.2.2.2.2.2.1 hk
    refine R_look (tgt := 198) (off := 168) dX0_runBody_30 (by decide) (by rw [hk]; exact ir_l (by decide) (by decide)) (by rw [hk]; first | done | decide) (by decide) ?_
    refine R_aload_n (pc' := 199) dX0_runBody_198 rfl i4.1 rfl ?_
    refine R_iconst (pc' := 200) dX0_runBody_199 rfl ?_
    refine R_iconst (pc' := 201) dX0_runBody_200 rfl ?_
    refine R_iload_n (pc' := 202) dX0_runBody_201 rfl rfl ?_
    refine R_iload_n (pc' := 203) dX0_runBody_202 rfl rfl ?_
    refine Q_callVI (vs := [(0, 1), (0, 0), (0, a2), (0, a3)]) (st := []) (pc' := 206) dX0_runBody_203 l_RX0_41 i4 (by decide) rfl rfl (Nat.le_of_ble_eq_true rfl) rfl (Nat.zero_le _) (Nat.zero_le _) rfl ?_
    refine CI.mono h (fun c21 r22 h => ?_)
    refine R_ineg (pc' := 207) dX0_runBody_206 rfl ?_
    exact Q_iret dX0_runBody_207 rfl h
  · have h := h.2.2.2.2.2.2.2.1 hk
    refine R_look (tgt := 208) (off := 178) dX0_runBody_30 (by decide) (by rw [hk]; exact ir_l (by decide) (by decide)) (by rw [hk]; first | done | decide) (by decide) ?_
    refine R_aload_n (pc' := 209) dX0_runBody_208 rfl i4.1 rfl ?_
    refine R_iconst (pc' := 210) dX0_runBody_209 rfl ?_
    refine R_iconst (pc' := 211) dX0_runBody_210 rfl ?_
    refine R_iload_n (pc' := 212) dX0_runBody_211 rfl rfl ?_
    refine R_iconst (pc' := 213) dX0_runBody_212 rfl ?_
    refine R_iadd (pc' := 214) dX0_runBody_213 rfl ?_
    refine R_iload_n (pc' := 215) dX0_runBody_214 rfl rfl ?_
    refine Q_callVI (vs := [(0, 1), (0, 1), (0, (a2 + 1)), (0, a3)]) (st := []) (pc' := 218) dX0_runBody_215 l_RX0_41 i4 (by decide) rfl rfl (Nat.le_of_ble_eq_true rfl) rfl (Nat.zero_le _) (Nat.zero_le _) rfl ?_
    refine CI.mono h (fun c24 r25 h => ?_)
    exact Q_iret dX0_runBody_218 rfl h
  · have h := h.2.2.2.2.2.2.2.2.1 hk
    refine R_look (tgt := 219) (off := 189) dX0_runBody_30 (by decide) (by rw [hk]; exact ir_l (by decide) (by decide)) (by rw [hk]; first | done | decide) (by decide) ?_
    refine R_aload_n (pc' := 220) dX0_runBody_219 rfl i4.1 rfl ?_
    refine R_iconst (pc' := 221) dX0_runBody_220 rfl ?_
    refine R_iconst (pc' := 222) dX0_runBody_221 rfl ?_
    refine R_iload_n (pc' := 223) dX0_runBody_222 rfl rfl ?_
    refine R_aload_n (pc' := 224) dX0_runBody_223 rfl i4.1 rfl ?_
    refine Q_getfi (J := 4) (pc' := 227) rfl dX0_runBody_224 l_RX0_34 i4 fd0_4.1 fd0_4.2.1 fd0_4.2.2.1 rfl ?_
    refine R_isub (pc' := 228) dX0_runBody_227 rfl ?_
    refine R_iload_n (pc' := 229) dX0_runBody_228 rfl rfl ?_
    refine Q_callVI (vs := [(0, 2), (0, 2), (0, (a2 - (c1 4 4))), (0, a3)]) (st := []) (pc' := 232) dX0_runBody_229 l_RX0_41 i4 (by decide) rfl rfl (Nat.le_of_ble_eq_true rfl) rfl (Nat.zero_le _) (Nat.zero_le _) rfl ?_
    refine CI.mono h (fun c27 r28 h => ?_)
    exact Q_iret dX0_runBody_232 rfl h
  · have h := h.2.2.2.2.2.2.2.2.2.1 hk
    refine R_look (tgt := 233) (off := 203) dX0_runBody_30 (by decide) (by rw [hk]; exact ir_l (by decide) (by decide)) (by rw [hk]; first | done | decide) (by decide) ?_
    refine R_aload_n (pc' := 234) dX0_runBody_233 rfl i4.1 rfl ?_
    refine R_iconst (pc' := 235) dX0_runBody_234 rfl ?_
    refine R_iconst (pc' := 236) dX0_runBody_235 rfl ?_
    refine R_iload_n (pc' := 237) dX0_runBody_236 rfl rfl ?_
    refine R_iload_n (pc' := 238) dX0_runBody_237 rfl rfl ?_
    refine Q_callVI (vs := [(0, 3), (0, 1), (0, a2), (0, a3)]) (st := []) (pc' := 241) dX0_runBody_238 l_RX0_41 i4 (by decide) rfl rfl (Nat.le_of_ble_eq_true rfl) rfl (Nat.zero_le _) (Nat.zero_le _) rfl ?_
    refine CI.mono h (fun c30 r31 h => ?_)
    refine R_aload_n (pc' := 242) dX0_runBody_241 rfl i4.1 rfl ?_
    refine R_iconst (pc' := 243) dX0_runBody_242 rfl ?_
    refine R_iconst (pc' := 244) dX0_runBody_243 rfl ?_
    refine R_iconst (pc' := 245) dX0_runBody_244 rfl ?_
    refine R_iload_n (pc' := 246) dX0_runBody_245 rfl rfl ?_
    refine Q_callVI (vs := [(0, 3), (0, 0), (0, 2), (0, a3)]) (st := [(0, r31)]) (pc' := 249) dX0_runBody_246 l_RX0_41 i4 (by decide) rfl rfl (Nat.le_of_ble_eq_true rfl) rfl (Nat.zero_le _) (Nat.zero_le _) rfl ?_
    refine CI.mono h (fun c32 r33 h => ?_)
    refine R_iadd (pc' := 250) dX0_runBody_249 rfl ?_
    exact Q_iret dX0_runBody_250 rfl h
  · have h := h.2.2.2.2.2.2.2.2.2.2.1 hk
    refine R_look (tgt := 251) (off := 221) dX0_runBody_30 (by decide) (by rw [hk]; exact ir_l (by decide) (by decide)) (by rw [hk]; first | done | decide) (by decide) ?_
    refine R_aload_n (pc' := 252) dX0_runBody_251 rfl i4.1 rfl ?_
    refine R_iconst (pc' := 253) dX0_runBody_252 rfl ?_
    refine R_iconst (pc' := 254) dX0_runBody_253 rfl ?_
    refine R_iload_n (pc' := 255) dX0_runBody_254 rfl rfl ?_
    refine R_iload_n (pc' := 256) dX0_runBody_255 rfl rfl ?_
    refine Q_callVI (vs := [(0, 3), (0, 0), (0, a2), (0, a3)]) (st := []) (pc' := 259) dX0_runBody_256 l_RX0_41 i4 (by decide) rfl rfl (Nat.le_of_ble_eq_true rfl) rfl (Nat.zero_le _) (Nat.zero_le _) rfl ?_
    refine CI.mono h (fun c35 r36 h => ?_)
    refine R_aload_n (pc' := 260) dX0_runBody_259 rfl i4.1 rfl ?_
    refine Q_getfi (J := 3) (pc' := 263) rfl dX0_runBody_260 l_RX0_31 i4 fd0_3.1 fd0_3.2.1 fd0_3.2.2.1 rfl ?_
    refine R_ixor (pc' := 264) dX0_runBody_263 rfl ?_
    exact Q_iret dX0_runBody_264 rfl h
  · have h := h.2.2.2.2.2.2.2.2.2.2.2 hk
    refine R_look (tgt := 265) (off := 235) dX0_runBody_30 (by decide) hs0 (by rw [Op.lookupswitch.offset_cons, if_neg (fun q => hk.1 q.symm), Op.lookupswitch.offset_cons, if_neg (fun q => hk.2.1 q.symm), Op.lookupswitch.offset_cons, if_neg (fun q => hk.2.2.1 q.symm), Op.lookupswitch.offset_cons, if_neg (fun q => hk.2.2.2.1 q.symm), Op.lookupswitch.offset_cons, if_neg (fun q => hk.2.2.2.2.1 q.symm), Op.lookupswitch.offset_cons, if_neg (fun q => hk.2.2.2.2.2.1 q.symm), Op.lookupswitch.offset_cons, if_neg (fun q => hk.2.2.2.2.2.2.1 q.symm), Op.lookupswitch.offset_cons, if_neg (fun q => hk.2.2.2.2.2.2.2.1 q.symm), Op.lookupswitch.offset_cons, if_neg (fun q => hk.2.2.2.2.2.2.2.2.1 q.symm), Op.lookupswitch.offset_cons, if_neg (fun q => hk.2.2.2.2.2.2.2.2.2.1 q.symm), Op.lookupswitch.offset_cons, if_neg (fun q => hk.2.2.2.2.2.2.2.2.2.2 q.symm)]; first | done | rfl) (by decide) ?_
    refine R_iconst (pc' := 266) dX0_runBody_265 rfl ?_
    exact Q_iret dX0_runBody_266 rfl h
theorem e_X0_runBody {K : SK} {d : Nat} {c : ct} {Q : ct → Int → Prop} (a1 : Int) (a2 : Int) (a3 : Int) (h : WI K (d + 1) mX0_runBody 0 [(2, 4), (0, a1), (0, a2), (0, a3)] [] c Q) : CI K (d + 1) mX0_runBody [(2, 4), (0, a1), (0, a2), (0, a3)] c Q := CM_ofS (by decide) (Nat.le_of_ble_eq_true rfl) _ rfl h
set_option maxRecDepth 100000 in
theorem s_X1_copyFrom_0 {K : SK} {d : Nat} {c : ct} {Q : ct → Prop} (t : Int) (ht : isEve t) (a1 : Int) (ha1 : isEve a1) (h : CV K d mX6_copyFrom [(2, (t + 13)), (2, (a1 + 13))] c (fun c1 => CV K d mX5_copyFrom [(2, (t + 1)), (2, (a1 + 1))] c1 (fun c3 => CV K d mX5_copyFrom [(2, (t + 5)), (2, (a1 + 5))] c3 (fun c5 => CV K d mX5_copyFrom [(2, (t + 9)), (2, (a1 + 9))] c5 (fun c7 => Q c7))))) : WV K (d + 1) mX1_copyFrom 0 [(2, t), (2, a1)] [] c Q := by
  refine R_aload_n (pc' := 1) dX1_copyFrom_0 rfl (eve_s ht).1 rfl ?_
  refine Q_getfr (v := (t + 13)) (J := 0) (pc' := 4) rfl dX1_copyFrom_1 l_RX1_31 (eve_s ht) fd1_0.1 fd1_0.2.1 fd1_0.2.2.1 fd1_0.2.2.2 (eve_f0 ht) rfl ?_
  refine R_aload_n (pc' := 5) dX1_copyFrom_4 rfl (eve_s ha1).1 rfl ?_
  refine Q_getfr (v := (a1 + 13)) (J := 0) (pc' := 8) rfl dX1_copyFrom_5 l_RX1_31 (eve_s ha1) fd1_0.1 fd1_0.2.1 fd1_0.2.2.1 fd1_0.2.2.2 (eve_f0 ha1) rfl ?_
  refine Q_callVV (vs := [(2, (a1 + 13))]) (st := []) (pc' := 11) dX1_copyFrom_8 l_RX1_35 (tab_s (eve_t ht)) (by decide) rfl rfl (Nat.le_of_ble_eq_true rfl) rfl (Nat.zero_le _) (Nat.zero_le _) rfl ?_
  refine CV.mono h (fun c1 h => ?_)
  refine R_aload_n (pc' := 12) dX1_copyFrom_11 rfl (eve_s ht).1 rfl ?_
  refine Q_getfr (v := (t + 1)) (J := 1) (pc' := 15) rfl dX1_copyFrom_12 l_RX1_14 (eve_s ht) fd1_1.1 fd1_1.2.1 fd1_1.2.2.1 fd1_1.2.2.2 (eve_f1 ht) rfl ?_
  refine R_aload_n (pc' := 16) dX1_copyFrom_15 rfl (eve_s ha1).1 rfl ?_
  refine Q_getfr (v := (a1 + 1)) (J := 1) (pc' := 19) rfl dX1_copyFrom_16 l_RX1_14 (eve_s ha1) fd1_1.1 fd1_1.2.1 fd1_1.2.2.1 fd1_1.2.2.2 (eve_f1 ha1) rfl ?_
  refine Q_callVV (vs := [(2, (a1 + 1))]) (st := []) (pc' := 22) dX1_copyFrom_19 l_RX1_39 (row_s (eve_r1 ht)) (by decide) rfl rfl (Nat.le_of_ble_eq_true rfl) rfl (Nat.zero_le _) (Nat.zero_le _) rfl ?_
  refine CV.mono h (fun c3 h => ?_)
  refine R_aload_n (pc' := 23) dX1_copyFrom_22 rfl (eve_s ht).1 rfl ?_
  refine Q_getfr (v := (t + 5)) (J := 2) (pc' := 26) rfl dX1_copyFrom_23 l_RX1_20 (eve_s ht) fd1_2.1 fd1_2.2.1 fd1_2.2.2.1 fd1_2.2.2.2 (eve_f2 ht) rfl ?_
  refine R_aload_n (pc' := 27) dX1_copyFrom_26 rfl (eve_s ha1).1 rfl ?_
  refine Q_getfr (v := (a1 + 5)) (J := 2) (pc' := 30) rfl dX1_copyFrom_27 l_RX1_20 (eve_s ha1) fd1_2.1 fd1_2.2.1 fd1_2.2.2.1 fd1_2.2.2.2 (eve_f2 ha1) rfl ?_
  refine Q_callVV (vs := [(2, (a1 + 5))]) (st := []) (pc' := 33) dX1_copyFrom_30 l_RX1_39 (row_s (eve_r2 ht)) (by decide) rfl rfl (Nat.le_of_ble_eq_true rfl) rfl (Nat.zero_le _) (Nat.zero_le _) rfl ?_
  refine CV.mono h (fun c5 h => ?_)
  refine R_aload_n (pc' := 34) dX1_copyFrom_33 rfl (eve_s ht).1 rfl ?_
  refine Q_getfr (v := (t + 9)) (J := 3) (pc' := 37) rfl dX1_copyFrom_34 l_RX1_23 (eve_s ht) fd1_3.1 fd1_3.2.1 fd1_3.2.2.1 fd1_3.2.2.2 (eve_f3 ht) rfl ?_
  refine R_aload_n (pc' := 38) dX1_copyFrom_37 rfl (eve_s ha1).1 rfl ?_
  refine Q_getfr (v := (a1 + 9)) (J := 3) (pc' := 41) rfl dX1_copyFrom_38 l_RX1_23 (eve_s ha1) fd1_3.1 fd1_3.2.1 fd1_3.2.2.1 fd1_3.2.2.2 (eve_f3 ha1) rfl ?_
  refine Q_callVV (vs := [(2, (a1 + 9))]) (st := []) (pc' := 44) dX1_copyFrom_41 l_RX1_39 (row_s (eve_r3 ht)) (by decide) rfl rfl (Nat.le_of_ble_eq_true rfl) rfl (Nat.zero_le _) (Nat.zero_le _) rfl ?_
  refine CV.mono h (fun c7 h => ?_)
  exact Q_ret dX1_copyFrom_44 rfl h
theorem e_X1_copyFrom {K : SK} {d : Nat} {c : ct} {Q : ct → Prop} (t : Int) (ht : isEve t) (a1 : Int) (ha1 : isEve a1) (h : WV K (d + 1) mX1_copyFrom 0 [(2, t), (2, a1)] [] c Q) : CV K (d + 1) mX1_copyFrom [(2, t), (2, a1)] c Q := CM_ofS (by decide) (Nat.le_of_ble_eq_true rfl) _ rfl h
set_option maxRecDepth 100000 in
theorem s_X2_clear_0 {K : SK} {d : Nat} {c : ct} {Q : ct → Prop} (t : Int) (ht : isHou t) (h : ∀ c1 : ct, c1 = up2 c t 1 0 → ∀ c2 : ct, c2 = up2 c1 t 4 0 → ∀ c3 : ct, c3 = up2 c2 t 5 5 → ∀ c4 : ct, c4 = up2 c3 t 6 6 → ∀ c5 : ct, c5 = up2 c4 t 7 0 → Q c5) : WV K (d + 1) mX2_clear 0 [(2, t)] [] c Q := by
  refine R_aload_n (pc' := 1) dX2_clear_0 rfl (hou_s ht).1 rfl ?_
  refine R_iconst (pc' := 2) dX2_clear_1 rfl ?_
  refine Q_putfi (J := 1) (pc' := 5) rfl dX2_clear_2 l_RX2_28 (hou_s ht) fd2_1.1 fd2_1.2.1 fd2_1.2.2.2.1 fd2_1.2.2.2.2 rfl (fun c1 hc1 => ?_)
  have h := h c1 hc1
  refine R_aload_n (pc' := 6) dX2_clear_5 rfl (hou_s ht).1 rfl ?_
  refine R_iconst (pc' := 7) dX2_clear_6 rfl ?_
  refine Q_putfi (J := 4) (pc' := 10) rfl dX2_clear_7 l_RX2_31 (hou_s ht) fd2_4.1 fd2_4.2.1 fd2_4.2.2.2.1 fd2_4.2.2.2.2 rfl (fun c2 hc2 => ?_)
  have h := h c2 hc2
  refine R_aload_n (pc' := 11) dX2_clear_10 rfl (hou_s ht).1 rfl ?_
  refine R_iconst (pc' := 12) dX2_clear_11 rfl ?_
  refine Q_putfi (J := 5) (pc' := 15) rfl dX2_clear_12 l_RX2_21 (hou_s ht) fd2_5.1 fd2_5.2.1 fd2_5.2.2.2.1 fd2_5.2.2.2.2 rfl (fun c3 hc3 => ?_)
  have h := h c3 hc3
  refine R_aload_n (pc' := 16) dX2_clear_15 rfl (hou_s ht).1 rfl ?_
  refine R_bipush (pc' := 18) dX2_clear_16 (by decide) rfl ?_
  refine Q_putfi (J := 6) (pc' := 21) rfl dX2_clear_18 l_RX2_25 (hou_s ht) fd2_6.1 fd2_6.2.1 fd2_6.2.2.2.1 fd2_6.2.2.2.2 rfl (fun c4 hc4 => ?_)
  have h := h c4 hc4
  refine R_aload_n (pc' := 22) dX2_clear_21 rfl (hou_s ht).1 rfl ?_
  refine R_iconst (pc' := 23) dX2_clear_22 rfl ?_
  refine Q_putfz (J := 7) (pc' := 26) rfl dX2_clear_23 l_RX2_34 (hou_s ht) fd2_7.1 fd2_7.2.1 fd2_7.2.2.2.1 fd2_7.2.2.2.2 (Or.inl rfl) rfl (fun c5 hc5 => ?_)
  have h := h c5 hc5
  exact Q_ret dX2_clear_26 rfl h
theorem e_X2_clear {K : SK} {d : Nat} {c : ct} {Q : ct → Prop} (t : Int) (ht : isHou t) (h : WV K (d + 1) mX2_clear 0 [(2, t)] [] c Q) : CV K (d + 1) mX2_clear [(2, t)] c Q := CM_ofS (by decide) (Nat.le_of_ble_eq_true rfl) _ rfl h
set_option maxRecDepth 100000 in
theorem s_X2_addStep_0 {K : SK} {d : Nat} {c : ct} {Q : ct → Prop} (t : Int) (ht : isHou t) (a1 : Int) (h : (ir (c t 1)) ∧ (100 ≤ (c t 1) → Q c) ∧ (¬ (100 ≤ (c t 1)) → ((0 ≤ (c t 1) ∧ (c t 1) < 100)) ∧ ∀ c3 : ct, c3 = up2 c (t + 1) (c t 1) a1 → ∀ c5 : ct, c5 = up2 c3 t 1 ((c3 t 1) + 1) → Q c5)) : WV K (d + 1) mX2_addStep 0 [(2, t), (0, a1)] [] c Q := by
  refine R_aload_n (pc' := 1) dX2_addStep_0 rfl (hou_s ht).1 rfl ?_
  refine Q_getfi (J := 1) (pc' := 4) rfl dX2_addStep_1 l_RX2_28 (hou_s ht) fd2_1.1 fd2_1.2.1 fd2_1.2.2.1 rfl ?_
  refine R_aload_n (pc' := 5) dX2_addStep_4 rfl (hou_s ht).1 rfl ?_
  refine Q_getfr (v := (t + 1)) (J := 0) (pc' := 8) rfl dX2_addStep_5 l_RX2_9 (hou_s ht) fd2_0.1 fd2_0.2.1 fd2_0.2.2.1 fd2_0.2.2.2 (hou_f0 ht) rfl ?_
  refine Q_alen10 (N := 100) (pc' := 9) rfl dX2_addStep_8 (hou_0 ht) rfl ?_
  have hs2 := h.1
  have h := h.2
  refine R_icmp_ge (tgt := 32) (pc' := 12) dX2_addStep_9 (by decide) hs2 (ir_l (by decide) (by decide)) rfl (fun hc1 => ?_) (fun hc1 => ?_)
  · have h := h.1 hc1
    exact Q_ret dX2_addStep_32 rfl h
  · have h := h.2 hc1
    refine R_aload_n (pc' := 13) dX2_addStep_12 rfl (hou_s ht).1 rfl ?_
    refine Q_getfr (v := (t + 1)) (J := 0) (pc' := 16) rfl dX2_addStep_13 l_RX2_9 (hou_s ht) fd2_0.1 fd2_0.2.1 fd2_0.2.2.1 fd2_0.2.2.2 (hou_f0 ht) rfl ?_
    refine R_aload_n (pc' := 17) dX2_addStep_16 rfl (hou_s ht).1 rfl ?_
    refine Q_getfi (J := 1) (pc' := 20) rfl dX2_addStep_17 l_RX2_28 (hou_s ht) fd2_1.1 fd2_1.2.1 fd2_1.2.2.1 rfl ?_
    refine R_iload_n (pc' := 21) dX2_addStep_20 rfl rfl ?_
    have hs4 := h.1
    have h := h.2
    refine Q_iastore (N := 100) (pc' := 22) rfl dX2_addStep_21 (hou_0 ht) (by decide) hs4  rfl (fun c3 hc3 => ?_)
    have h := h c3 hc3
    refine R_aload_n (pc' := 23) dX2_addStep_22 rfl (hou_s ht).1 rfl ?_
    refine R_dup (pc' := 24) dX2_addStep_23 (by simp) rfl ?_
    refine Q_getfi (J := 1) (pc' := 27) rfl dX2_addStep_24 l_RX2_28 (hou_s ht) fd2_1.1 fd2_1.2.1 fd2_1.2.2.1 rfl ?_
    refine R_iconst (pc' := 28) dX2_addStep_27 rfl ?_
    refine R_iadd (pc' := 29) dX2_addStep_28 rfl ?_
    refine Q_putfi (J := 1) (pc' := 32) rfl dX2_addStep_29 l_RX2_28 (hou_s ht) fd2_1.1 fd2_1.2.1 fd2_1.2.2.2.1 fd2_1.2.2.2.2 rfl (fun c5 hc5 => ?_)
    have h := h c5 hc5
    exact Q_ret dX2_addStep_32 rfl h
theorem e_X2_addStep {K : SK} {d : Nat} {c : ct} {Q : ct → Prop} (t : Int) (ht : isHou t) (a1 : Int) (h : WV K (d + 1) mX2_addStep 0 [(2, t), (0, a1)] [] c Q) : CV K (d + 1) mX2_addStep [(2, t), (0, a1)] c Q := CM_ofS (by decide) (Nat.le_of_ble_eq_true rfl) _ rfl h
set_option maxRecDepth 100000 in
theorem s_X2_addTest_0 {K : SK} {d : Nat} {c : ct} {Q : ct → Prop} (t : Int) (ht : isHou t) (a1 : Int) (a2 : Int) (a3 : Int) (h : ((c t 7) = 0 → (a1 = 5 → ∀ c3 : ct, c3 = up2 c t 7 1 → CV K d mX2_addStep [(2, t), (0, (bOr (bOr (bShl a1 16) (bShl a2 8)) a3))] c3 (fun c4 => Q c4)) ∧ (¬ (a1 = 5) → ir a1 ∧ ∀ c6 : ct, c6 = up2 c t 7 0 → CV K d mX2_addStep [(2, t), (0, (bOr (bOr (bShl a1 16) (bShl a2 8)) a3))] c6 (fun c7 => Q c7))) ∧ (¬ ((c t 7) = 0) → ir (c t 7) ∧ ∀ c9 : ct, c9 = up2 c t 7 1 → CV K d mX2_addStep [(2, t), (0, (bOr (bOr (bShl a1 16) (bShl a2 8)) a3))] c9 (fun c10 => Q c10))) : WV K (d + 1) mX2_addTest 0 [(2, t), (0, a1), (0, a2), (0, a3)] [] c Q := by
  refine R_aload_n (pc' := 1) dX2_addTest_0 rfl (hou_s ht).1 rfl ?_
  refine R_aload_n (pc' := 2) dX2_addTest_1 rfl (hou_s ht).1 rfl ?_
  refine Q_getfi (J := 7) (pc' := 5) rfl dX2_addTest_2 l_RX2_34 (hou_s ht) fd2_7.1 fd2_7.2.1 fd2_7.2.2.1 rfl ?_
  by_cases hc1 : (c t 7) = 0
  · have h := h.1 hc1
    refine R_neS_if (tgt := 13) (pc' := 8) dX2_addTest_5 (by decide) hc1 rfl ?_
    refine R_iload_n (pc' := 9) dX2_addTest_8 rfl rfl ?_
    refine R_iconst (pc' := 10) dX2_addTest_9 rfl ?_
    by_cases hc2 : a1 = 5
    · have h := h.1 hc2
      refine R_neS_ic (tgt := 17) (pc' := 13) dX2_addTest_10 (by decide) hc2 rfl ?_
      refine R_iconst (pc' := 14) dX2_addTest_13 rfl ?_
      refine R_goto (tgt := 18) dX2_addTest_14 (by decide) ?_
      refine Q_putfz (J := 7) (pc' := 21) rfl dX2_addTest_18 l_RX2_34 (hou_s ht) fd2_7.1 fd2_7.2.1 fd2_7.2.2.2.1 fd2_7.2.2.2.2 (Or.inr rfl) rfl (fun c3 hc3 => ?_)
      have h := h c3 hc3
      refine R_aload_n (pc' := 22) dX2_addTest_21 rfl (hou_s ht).1 rfl ?_
      refine R_iload_n (pc' := 23) dX2_addTest_22 rfl rfl ?_
      refine R_bipush (pc' := 25) dX2_addTest_23 (by decide) rfl ?_
      refine R_ishl (pc' := 26) dX2_addTest_25 rfl ?_
      refine R_iload_n (pc' := 27) dX2_addTest_26 rfl rfl ?_
      refine R_bipush (pc' := 29) dX2_addTest_27 (by decide) rfl ?_
      refine R_ishl (pc' := 30) dX2_addTest_29 rfl ?_
      refine R_ior (pc' := 31) dX2_addTest_30 rfl ?_
      refine R_iload_n (pc' := 32) dX2_addTest_31 rfl rfl ?_
      refine R_ior (pc' := 33) dX2_addTest_32 rfl ?_
      refine Q_callVV (vs := [(0, (bOr (bOr (bShl a1 16) (bShl a2 8)) a3))]) (st := []) (pc' := 36) dX2_addTest_33 l_RX2_38 (hou_s ht) (by decide) rfl rfl (Nat.le_of_ble_eq_true rfl) rfl (Nat.zero_le _) (Nat.zero_le _) rfl ?_
      refine CV.mono h (fun c4 h => ?_)
      exact Q_ret dX2_addTest_36 rfl h
    · have h := h.2 hc2
      refine R_neD_ic (tgt := 17) (pc' := 13) dX2_addTest_10 (by decide) hc2 ⟨h.1, ir_l (by decide) (by decide)⟩ rfl ?_
      have h := h.2
      refine R_iconst (pc' := 18) dX2_addTest_17 rfl ?_
      refine Q_putfz (J := 7) (pc' := 21) rfl dX2_addTest_18 l_RX2_34 (hou_s ht) fd2_7.1 fd2_7.2.1 fd2_7.2.2.2.1 fd2_7.2.2.2.2 (Or.inl rfl) rfl (fun c6 hc6 => ?_)
      have h := h c6 hc6
      refine R_aload_n (pc' := 22) dX2_addTest_21 rfl (hou_s ht).1 rfl ?_
      refine R_iload_n (pc' := 23) dX2_addTest_22 rfl rfl ?_
      refine R_bipush (pc' := 25) dX2_addTest_23 (by decide) rfl ?_
      refine R_ishl (pc' := 26) dX2_addTest_25 rfl ?_
      refine R_iload_n (pc' := 27) dX2_addTest_26 rfl rfl ?_
      refine R_bipush (pc' := 29) dX2_addTest_27 (by decide) rfl ?_
      refine R_ishl (pc' := 30) dX2_addTest_29 rfl ?_
      refine R_ior (pc' := 31) dX2_addTest_30 rfl ?_
      refine R_iload_n (pc' := 32) dX2_addTest_31 rfl rfl ?_
      refine R_ior (pc' := 33) dX2_addTest_32 rfl ?_
      refine Q_callVV (vs := [(0, (bOr (bOr (bShl a1 16) (bShl a2 8)) a3))]) (st := []) (pc' := 36) dX2_addTest_33 l_RX2_38 (hou_s ht) (by decide) rfl rfl (Nat.le_of_ble_eq_true rfl) rfl (Nat.zero_le _) (Nat.zero_le _) rfl ?_
      refine CV.mono h (fun c7 h => ?_)
      exact Q_ret dX2_addTest_36 rfl h
  · have h := h.2 hc1
    refine R_neD_if (tgt := 13) (pc' := 8) dX2_addTest_5 (by decide) hc1 h.1 rfl ?_
    have h := h.2
    refine R_iconst (pc' := 14) dX2_addTest_13 rfl ?_
    refine R_goto (tgt := 18) dX2_addTest_14 (by decide) ?_
    refine Q_putfz (J := 7) (pc' := 21) rfl dX2_addTest_18 l_RX2_34 (hou_s ht) fd2_7.1 fd2_7.2.1 fd2_7.2.2.2.1 fd2_7.2.2.2.2 (Or.inr rfl) rfl (fun c9 hc9 => ?_)
    have h := h c9 hc9
    refine R_aload_n (pc' := 22) dX2_addTest_21 rfl (hou_s ht).1 rfl ?_
    refine R_iload_n (pc' := 23) dX2_addTest_22 rfl rfl ?_
    refine R_bipush (pc' := 25) dX2_addTest_23 (by decide) rfl ?_
    refine R_ishl (pc' := 26) dX2_addTest_25 rfl ?_
    refine R_iload_n (pc' := 27) dX2_addTest_26 rfl rfl ?_
    refine R_bipush (pc' := 29) dX2_addTest_27 (by decide) rfl ?_
    refine R_ishl (pc' := 30) dX2_addTest_29 rfl ?_
    refine R_ior (pc' := 31) dX2_addTest_30 rfl ?_
    refine R_iload_n (pc' := 32) dX2_addTest_31 rfl rfl ?_
    refine R_ior (pc' := 33) dX2_addTest_32 rfl ?_
    refine Q_callVV (vs := [(0, (bOr (bOr (bShl a1 16) (bShl a2 8)) a3))]) (st := []) (pc' := 36) dX2_addTest_33 l_RX2_38 (hou_s ht) (by decide) rfl rfl (Nat.le_of_ble_eq_true rfl) rfl (Nat.zero_le _) (Nat.zero_le _) rfl ?_
    refine CV.mono h (fun c10 h => ?_)
    exact Q_ret dX2_addTest_36 rfl h
theorem e_X2_addTest {K : SK} {d : Nat} {c : ct} {Q : ct → Prop} (t : Int) (ht : isHou t) (a1 : Int) (a2 : Int) (a3 : Int) (h : WV K (d + 1) mX2_addTest 0 [(2, t), (0, a1), (0, a2), (0, a3)] [] c Q) : CV K (d + 1) mX2_addTest [(2, t), (0, a1), (0, a2), (0, a3)] c Q := CM_ofS (by decide) (Nat.le_of_ble_eq_true rfl) _ rfl h
set_option maxRecDepth 100000 in
theorem s_X2_addWeight_0 {K : SK} {d : Nat} {c : ct} {Q : ct → Prop} (t : Int) (ht : isHou t) (a1 : Int) (h : (ir (c t 4)) ∧ (10 ≤ (c t 4) → Q c) ∧ (¬ (10 ≤ (c t 4)) → ((0 ≤ (c t 4) ∧ (c t 4) < 10)) ∧ ∀ c3 : ct, c3 = up2 c (t + 2) (c t 4) a1 → ((0 ≤ (c3 t 4) ∧ (c3 t 4) < 10)) ∧ ∀ c5 : ct, c5 = up2 c3 (t + 3) (c3 t 4) (c3 t 1) → ∀ c7 : ct, c7 = up2 c5 t 4 ((c5 t 4) + 1) → Q c7)) : WV K (d + 1) mX2_addWeight 0 [(2, t), (0, a1)] [] c Q := by
  refine R_aload_n (pc' := 1) dX2_addWeight_0 rfl (hou_s ht).1 rfl ?_
  refine Q_getfi (J := 4) (pc' := 4) rfl dX2_addWeight_1 l_RX2_31 (hou_s ht) fd2_4.1 fd2_4.2.1 fd2_4.2.2.1 rfl ?_
  refine R_aload_n (pc' := 5) dX2_addWeight_4 rfl (hou_s ht).1 rfl ?_
  refine Q_getfr (v := (t + 2)) (J := 2) (pc' := 8) rfl dX2_addWeight_5 l_RX2_15 (hou_s ht) fd2_2.1 fd2_2.2.1 fd2_2.2.2.1 fd2_2.2.2.2 (hou_f2 ht) rfl ?_
  refine Q_alen10 (N := 10) (pc' := 9) rfl dX2_addWeight_8 (hou_2 ht) rfl ?_
  have hs2 := h.1
  have h := h.2
  refine R_icmp_ge (tgt := 45) (pc' := 12) dX2_addWeight_9 (by decide) hs2 (ir_l (by decide) (by decide)) rfl (fun hc1 => ?_) (fun hc1 => ?_)
  · have h := h.1 hc1
    exact Q_ret dX2_addWeight_45 rfl h
  · have h := h.2 hc1
    refine R_aload_n (pc' := 13) dX2_addWeight_12 rfl (hou_s ht).1 rfl ?_
    refine Q_getfr (v := (t + 2)) (J := 2) (pc' := 16) rfl dX2_addWeight_13 l_RX2_15 (hou_s ht) fd2_2.1 fd2_2.2.1 fd2_2.2.2.1 fd2_2.2.2.2 (hou_f2 ht) rfl ?_
    refine R_aload_n (pc' := 17) dX2_addWeight_16 rfl (hou_s ht).1 rfl ?_
    refine Q_getfi (J := 4) (pc' := 20) rfl dX2_addWeight_17 l_RX2_31 (hou_s ht) fd2_4.1 fd2_4.2.1 fd2_4.2.2.1 rfl ?_
    refine R_iload_n (pc' := 21) dX2_addWeight_20 rfl rfl ?_
    have hs4 := h.1
    have h := h.2
    refine Q_iastore (N := 10) (pc' := 22) rfl dX2_addWeight_21 (hou_2 ht) (by decide) hs4  rfl (fun c3 hc3 => ?_)
    have h := h c3 hc3
    refine R_aload_n (pc' := 23) dX2_addWeight_22 rfl (hou_s ht).1 rfl ?_
    refine Q_getfr (v := (t + 3)) (J := 3) (pc' := 26) rfl dX2_addWeight_23 l_RX2_18 (hou_s ht) fd2_3.1 fd2_3.2.1 fd2_3.2.2.1 fd2_3.2.2.2 (hou_f3 ht) rfl ?_
    refine R_aload_n (pc' := 27) dX2_addWeight_26 rfl (hou_s ht).1 rfl ?_
    refine Q_getfi (J := 4) (pc' := 30) rfl dX2_addWeight_27 l_RX2_31 (hou_s ht) fd2_4.1 fd2_4.2.1 fd2_4.2.2.1 rfl ?_
    refine R_aload_n (pc' := 31) dX2_addWeight_30 rfl (hou_s ht).1 rfl ?_
    refine Q_getfi (J := 1) (pc' := 34) rfl dX2_addWeight_31 l_RX2_28 (hou_s ht) fd2_1.1 fd2_1.2.1 fd2_1.2.2.1 rfl ?_
    have hs6 := h.1
    have h := h.2
    refine Q_iastore (N := 10) (pc' := 35) rfl dX2_addWeight_34 (hou_3 ht) (by decide) hs6  rfl (fun c5 hc5 => ?_)
    have h := h c5 hc5
    refine R_aload_n (pc' := 36) dX2_addWeight_35 rfl (hou_s ht).1 rfl ?_
    refine R_dup (pc' := 37) dX2_addWeight_36 (by simp) rfl ?_
    refine Q_getfi (J := 4) (pc' := 40) rfl dX2_addWeight_37 l_RX2_31 (hou_s ht) fd2_4.1 fd2_4.2.1 fd2_4.2.2.1 rfl ?_
    refine R_iconst (pc' := 41) dX2_addWeight_40 rfl ?_
    refine R_iadd (pc' := 42) dX2_addWeight_41 rfl ?_
    refine Q_putfi (J := 4) (pc' := 45) rfl dX2_addWeight_42 l_RX2_31 (hou_s ht) fd2_4.1 fd2_4.2.1 fd2_4.2.2.2.1 fd2_4.2.2.2.2 rfl (fun c7 hc7 => ?_)
    have h := h c7 hc7
    exact Q_ret dX2_addWeight_45 rfl h
theorem e_X2_addWeight {K : SK} {d : Nat} {c : ct} {Q : ct → Prop} (t : Int) (ht : isHou t) (a1 : Int) (h : WV K (d + 1) mX2_addWeight 0 [(2, t), (0, a1)] [] c Q) : CV K (d + 1) mX2_addWeight [(2, t), (0, a1)] c Q := CM_ofS (by decide) (Nat.le_of_ble_eq_true rfl) _ rfl h
set_option maxRecDepth 100000 in
theorem s_X2_liking_0 {K : SK} {d : Nat} {c : ct} {Q : ct → Int → Prop} (t : Int) (ht : isHou t) (a1 : Int) (ha1 : isS a1 10 6) (h : WI K (d + 1) mX2_liking 7 [(2, t), (2, a1), (0, 2), (0, 0), (0, 0)] [] c Q) : WI K (d + 1) mX2_liking 0 [(2, t), (2, a1), (9, 0), (9, 0), (9, 0)] [] c Q := by
  refine R_iconst (pc' := 1) dX2_liking_0 rfl ?_
  refine R_istore_n (L' := [_, _, _, _, _]) (pc' := 2) dX2_liking_1 (by decide) rfl rfl rfl ?_
  refine R_iconst (pc' := 3) dX2_liking_2 rfl ?_
  refine R_istore_n (L' := [_, _, _, _, _]) (pc' := 4) dX2_liking_3 (by decide) rfl rfl rfl ?_
  refine R_iconst (pc' := 5) dX2_liking_4 rfl ?_
  refine R_istore (L' := [_, _, _, _, _]) (pc' := 7) dX2_liking_5 (by decide) rfl rfl rfl ?_
  exact WP_wk (wk_e (wk_e (wk_e (wk_e (wk_e wk_n))))) h
set_option maxRecDepth 100000 in
theorem s_X2_liking_7 {K : SK} {d : Nat} {c : ct} {Q : ct → Int → Prop} (t : Int) (ht : isHou t) (a1 : Int) (ha1 : isS a1 10 6) (a2 : Int) (a3 : Int) (a4 : Int) (h : (ir a4 ∧ ir (c t 4)) ∧ ((c t 4) ≤ a4 → Q c a2) ∧ (¬ ((c t 4) ≤ a4) → ((0 ≤ a4 ∧ a4 < 10)) ∧ CI K d mX2_holds [(2, t), (0, a3), (0, (c (t + 3) a4)), (2, a1)] c (fun c4 r5 => (r5 = 0 → ((0 ≤ a4 ∧ a4 < 10)) ∧ WI K (d + 1) mX2_liking 7 [(2, t), (2, a1), (0, a2), (0, (c4 (t + 3) a4)), (0, (a4 + 1))] [] c4 Q) ∧ (¬ (r5 = 0) → ir r5 ∧ ((0 ≤ a4 ∧ a4 < 10)) ∧ ((0 ≤ a4 ∧ a4 < 10)) ∧ WI K (d + 1) mX2_liking 7 [(2, t), (2, a1), (0, (a2 + (c4 (t + 2) a4))), (0, (c4 (t + 3) a4)), (0, (a4 + 1))] [] c4 Q)))) : WI K (d + 1) mX2_liking 7 [(2, t), (2, a1), (0, a2), (0, a3), (0, a4)] [] c Q := by
  refine R_iload (pc' := 9) dX2_liking_7 rfl rfl ?_
  refine R_aload_n (pc' := 10) dX2_liking_9 rfl (hou_s ht).1 rfl ?_
  refine Q_getfi (J := 4) (pc' := 13) rfl dX2_liking_10 l_RX2_31 (hou_s ht) fd2_4.1 fd2_4.2.1 fd2_4.2.2.1 rfl ?_
  have hs2 := h.1
  have h := h.2
  refine R_icmp_ge (tgt := 56) (pc' := 16) dX2_liking_13 (by decide) hs2.1 hs2.2 rfl (fun hc1 => ?_) (fun hc1 => ?_)
  · have h := h.1 hc1
    refine R_iload_n (pc' := 57) dX2_liking_56 rfl rfl ?_
    exact Q_iret dX2_liking_57 rfl h
  · have h := h.2 hc1
    refine R_aload_n (pc' := 17) dX2_liking_16 rfl (hou_s ht).1 rfl ?_
    refine R_iload_n (pc' := 18) dX2_liking_17 rfl rfl ?_
    refine R_aload_n (pc' := 19) dX2_liking_18 rfl (hou_s ht).1 rfl ?_
    refine Q_getfr (v := (t + 3)) (J := 3) (pc' := 22) rfl dX2_liking_19 l_RX2_18 (hou_s ht) fd2_3.1 fd2_3.2.1 fd2_3.2.2.1 fd2_3.2.2.2 (hou_f3 ht) rfl ?_
    refine R_iload (pc' := 24) dX2_liking_22 rfl rfl ?_
    have hs3 := h.1
    have h := h.2
    refine Q_iaload (N := 10) (pc' := 25) rfl dX2_liking_24 (hou_3 ht) (by decide) hs3 rfl ?_
    refine R_aload_n (pc' := 26) dX2_liking_25 rfl ha1.1 rfl ?_
    refine Q_callVI (vs := [(0, a3), (0, (c (t + 3) a4)), (2, a1)]) (st := []) (pc' := 29) dX2_liking_26 l_RX2_42 (hou_s ht) (by decide) rfl rfl (Nat.le_of_ble_eq_true rfl) rfl (Nat.zero_le _) (Nat.zero_le _) rfl ?_
    refine CI.mono h (fun c4 r5 h => ?_)
    by_cases hc6 : r5 = 0
    · have h := h.1 hc6
      refine R_eqS_if (tgt := 42) (pc' := 32) dX2_liking_29 (by decide) hc6 rfl ?_
      refine R_aload_n (pc' := 43) dX2_liking_42 rfl (hou_s ht).1 rfl ?_
      refine Q_getfr (v := (t + 3)) (J := 3) (pc' := 46) rfl dX2_liking_43 l_RX2_18 (hou_s ht) fd2_3.1 fd2_3.2.1 fd2_3.2.2.1 fd2_3.2.2.2 (hou_f3 ht) rfl ?_
      refine R_iload (pc' := 48) dX2_liking_46 rfl rfl ?_
      have hs7 := h.1
      have h := h.2
      refine Q_iaload (N := 10) (pc' := 49) rfl dX2_liking_48 (hou_3 ht) (by decide) hs7 rfl ?_
      refine R_istore_n (L' := [_, _, _, _, _]) (pc' := 50) dX2_liking_49 (by decide) rfl rfl rfl ?_
      refine R_iinc (L' := [_, _, _, _, _]) (pc' := 53) dX2_liking_50 rfl (by decide) rfl rfl rfl ?_
      refine R_goto (tgt := 7) dX2_liking_53 (by decide) ?_
      exact WP_wk (wk_e (wk_e (wk_e (wk_e (wk_e wk_n))))) h
    · have h := h.2 hc6
      refine R_eqD_if (tgt := 42) (pc' := 32) dX2_liking_29 (by decide) hc6 h.1 rfl ?_
      have h := h.2
      refine R_iload_n (pc' := 33) dX2_liking_32 rfl rfl ?_
      refine R_aload_n (pc' := 34) dX2_liking_33 rfl (hou_s ht).1 rfl ?_
      refine Q_getfr (v := (t + 2)) (J := 2) (pc' := 37) rfl dX2_liking_34 l_RX2_15 (hou_s ht) fd2_2.1 fd2_2.2.1 fd2_2.2.2.1 fd2_2.2.2.2 (hou_f2 ht) rfl ?_
      refine R_iload (pc' := 39) dX2_liking_37 rfl rfl ?_
      have hs8 := h.1
      have h := h.2
      refine Q_iaload (N := 10) (pc' := 40) rfl dX2_liking_39 (hou_2 ht) (by decide) hs8 rfl ?_
      refine R_iadd (pc' := 41) dX2_liking_40 rfl ?_
      refine R_istore_n (L' := [_, _, _, _, _]) (pc' := 42) dX2_liking_41 (by decide) rfl rfl rfl ?_
      refine R_aload_n (pc' := 43) dX2_liking_42 rfl (hou_s ht).1 rfl ?_
      refine Q_getfr (v := (t + 3)) (J := 3) (pc' := 46) rfl dX2_liking_43 l_RX2_18 (hou_s ht) fd2_3.1 fd2_3.2.1 fd2_3.2.2.1 fd2_3.2.2.2 (hou_f3 ht) rfl ?_
      refine R_iload (pc' := 48) dX2_liking_46 rfl rfl ?_
      have hs9 := h.1
      have h := h.2
      refine Q_iaload (N := 10) (pc' := 49) rfl dX2_liking_48 (hou_3 ht) (by decide) hs9 rfl ?_
      refine R_istore_n (L' := [_, _, _, _, _]) (pc' := 50) dX2_liking_49 (by decide) rfl rfl rfl ?_
      refine R_iinc (L' := [_, _, _, _, _]) (pc' := 53) dX2_liking_50 rfl (by decide) rfl rfl rfl ?_
      refine R_goto (tgt := 7) dX2_liking_53 (by decide) ?_
      exact WP_wk (wk_e (wk_e (wk_e (wk_e (wk_e wk_n))))) h
theorem e_X2_liking {K : SK} {d : Nat} {c : ct} {Q : ct → Int → Prop} (t : Int) (ht : isHou t) (a1 : Int) (ha1 : isS a1 10 6) (h : WI K (d + 1) mX2_liking 0 [(2, t), (2, a1), (9, 0), (9, 0), (9, 0)] [] c Q) : CI K (d + 1) mX2_liking [(2, t), (2, a1)] c Q := CM_ofS (by decide) (Nat.le_of_ble_eq_true rfl) _ rfl h
set_option maxRecDepth 100000 in
theorem s_X2_holds_0 {K : SK} {d : Nat} {c : ct} {Q : ct → Int → Prop} (t : Int) (ht : isHou t) (a1 : Int) (a2 : Int) (a3 : Int) (ha3 : isS a3 10 6) (h : WI K (d + 1) mX2_holds 6 [(2, t), (9, 0), (0, a2), (2, a3), (0, 0), (0, a1), (9, 0)] [] c Q) : WI K (d + 1) mX2_holds 0 [(2, t), (0, a1), (0, a2), (2, a3), (9, 0), (9, 0), (9, 0)] [] c Q := by
  refine R_iconst (pc' := 1) dX2_holds_0 rfl ?_
  refine R_istore (L' := [_, _, _, _, _, _, _]) (pc' := 3) dX2_holds_1 (by decide) rfl rfl rfl ?_
  refine R_iload_n (pc' := 4) dX2_holds_3 rfl rfl ?_
  refine R_istore (L' := [_, _, _, _, _, _, _]) (pc' := 6) dX2_holds_4 (by decide) rfl rfl rfl ?_
  exact WP_wk (wk_e (wk_u (wk_e (wk_e (wk_e (wk_e (wk_u wk_n))))))) h
set_option maxRecDepth 100000 in
theorem s_X2_holds_6 {K : SK} {d : Nat} {c : ct} {Q : ct → Int → Prop} (t : Int) (ht : isHou t) (a3 : Int) (ha3 : isS a3 10 6) (a2 : Int) (a4 : Int) (a5 : Int) (h : (ir a5 ∧ ir a2) ∧ (a2 ≤ a5 → ((bAnd a4 1) = 0 → Q c 0) ∧ (¬ ((bAnd a4 1) = 0) → ir (bAnd a4 1) ∧ Q c 1)) ∧ (¬ (a2 ≤ a5) → ((0 ≤ a5 ∧ a5 < 100)) ∧ ir (c (t + 1) a5) ∧ ((c (t + 1) a5) = (-3) → WI K (d + 1) mX2_holds 6 [(2, t), (9, 0), (0, a2), (2, a3), (0, (bOr (bShr a4 1) (bAnd a4 1))), (0, (a5 + 1)), (9, 0)] [] c Q) ∧ ((c (t + 1) a5) = (-2) → WI K (d + 1) mX2_holds 6 [(2, t), (9, 0), (0, a2), (2, a3), (0, (bAnd (bShr a4 1) (bOr (bAnd a4 1) (-2)))), (0, (a5 + 1)), (9, 0)] [] c Q) ∧ ((c (t + 1) a5) = (-1) → WI K (d + 1) mX2_holds 6 [(2, t), (9, 0), (0, a2), (2, a3), (0, (bXor a4 1)), (0, (a5 + 1)), (9, 0)] [] c Q) ∧ (((c (t + 1) a5) < (-3) ∨ (-1) < (c (t + 1) a5)) → ((0 ≤ a5 ∧ a5 < 100)) ∧ CI K d mX2_isSo [(0, (c (t + 1) a5)), (2, a3)] c (fun c9 r10 => CI K d mX8_oneIf [(0, r10)] c9 (fun c11 r12 => WI K (d + 1) mX2_holds 6 [(2, t), (9, 0), (0, a2), (2, a3), (0, (bOr (bShl a4 1) r12)), (0, (a5 + 1)), (9, 0)] [] c11 Q))))) : WI K (d + 1) mX2_holds 6 [(2, t), (9, 0), (0, a2), (2, a3), (0, a4), (0, a5), (9, 0)] [] c Q := by
  refine R_iload (pc' := 8) dX2_holds_6 rfl rfl ?_
  refine R_iload_n (pc' := 9) dX2_holds_8 rfl rfl ?_
  have hs2 := h.1
  have h := h.2
  refine R_icmp_ge (tgt := 115) (pc' := 12) dX2_holds_9 (by decide) hs2.1 hs2.2 rfl (fun hc1 => ?_) (fun hc1 => ?_)
  · have h := h.1 hc1
    refine R_iload (pc' := 117) dX2_holds_115 rfl rfl ?_
    refine R_iconst (pc' := 118) dX2_holds_117 rfl ?_
    refine R_iand (pc' := 119) dX2_holds_118 rfl ?_
    by_cases hc3 : (bAnd a4 1) = 0
    · have h := h.1 hc3
      refine R_eqS_if (tgt := 126) (pc' := 122) dX2_holds_119 (by decide) hc3 rfl ?_
      refine R_iconst (pc' := 127) dX2_holds_126 rfl ?_
      exact Q_zret dX2_holds_127 rfl (Or.inl rfl) h
    · have h := h.2 hc3
      refine R_eqD_if (tgt := 126) (pc' := 122) dX2_holds_119 (by decide) hc3 h.1 rfl ?_
      have h := h.2
      refine R_iconst (pc' := 123) dX2_holds_122 rfl ?_
      refine R_goto (tgt := 127) dX2_holds_123 (by decide) ?_
      exact Q_zret dX2_holds_127 rfl (Or.inr rfl) h
  · have h := h.2 hc1
    refine R_iload (pc' := 14) dX2_holds_12 rfl rfl ?_
    refine R_iconst (pc' := 15) dX2_holds_14 rfl ?_
    refine R_iand (pc' := 16) dX2_holds_15 rfl ?_
    refine R_istore (L' := [_, _, _, _, _, _, _]) (pc' := 18) dX2_holds_16 (by decide) rfl rfl rfl ?_
    refine R_aload_n (pc' := 19) dX2_holds_18 rfl (hou_s ht).1 rfl ?_
    refine Q_getfr (v := (t + 1)) (J := 0) (pc' := 22) rfl dX2_holds_19 l_RX2_9 (hou_s ht) fd2_0.1 fd2_0.2.1 fd2_0.2.2.1 fd2_0.2.2.2 (hou_f0 ht) rfl ?_
    refine R_iload (pc' := 24) dX2_holds_22 rfl rfl ?_
    have hs4 := h.1
    have h := h.2
    refine Q_iaload (N := 100) (pc' := 25) rfl dX2_holds_24 (hou_0 ht) (by decide) hs4 rfl ?_
    have hs0 := h.1
    have h := h.2
    rcases (show (c (t + 1) a5) = (-3) ∨ (c (t + 1) a5) = (-2) ∨ (c (t + 1) a5) = (-1) ∨ ((c (t + 1) a5) < (-3) ∨ (-1) < (c (t + 1) a5)) by omega) with hk | hk | hk | hk
    · have h := h.1 hk
      refine R_tableAt (tgt := 76) (-3) hk dX2_holds_25 (ir_l (by decide) (by decide)) (by decide) rfl (by decide) ?_
      refine R_iload (pc' := 78) dX2_holds_76 rfl rfl ?_
      refine R_iconst (pc' := 79) dX2_holds_78 rfl ?_
      refine R_ishr (pc' := 80) dX2_holds_79 rfl ?_
      refine R_iload (pc' := 82) dX2_holds_80 rfl rfl ?_
      refine R_ior (pc' := 83) dX2_holds_82 rfl ?_
      refine R_istore (L' := [_, _, _, _, _, _, _]) (pc' := 85) dX2_holds_83 (by decide) rfl rfl rfl ?_
      refine R_goto (tgt := 109) dX2_holds_85 (by decide) ?_
      refine R_iinc (L' := [_, _, _, _, _, _, _]) (pc' := 112) dX2_holds_109 rfl (by decide) rfl rfl rfl ?_
      refine R_goto (tgt := 6) dX2_holds_112 (by decide) ?_
      exact WP_wk (wk_e (wk_u (wk_e (wk_e (wk_e (wk_e (wk_u wk_n))))))) h
    · have h := h.2.1 hk
      refine R_tableAt (tgt := 61) (-2) hk dX2_holds_25 (ir_l (by decide) (by decide)) (by decide) rfl (by decide) ?_
      refine R_iload (pc' := 63) dX2_holds_61 rfl rfl ?_
      refine R_iconst (pc' := 64) dX2_holds_63 rfl ?_
      refine R_ishr (pc' := 65) dX2_holds_64 rfl ?_
      refine R_iload (pc' := 67) dX2_holds_65 rfl rfl ?_
      refine R_bipush (pc' := 69) dX2_holds_67 (by decide) rfl ?_
      refine R_ior (pc' := 70) dX2_holds_69 rfl ?_
      refine R_iand (pc' := 71) dX2_holds_70 rfl ?_
      refine R_istore (L' := [_, _, _, _, _, _, _]) (pc' := 73) dX2_holds_71 (by decide) rfl rfl rfl ?_
      refine R_goto (tgt := 109) dX2_holds_73 (by decide) ?_
      refine R_iinc (L' := [_, _, _, _, _, _, _]) (pc' := 112) dX2_holds_109 rfl (by decide) rfl rfl rfl ?_
      refine R_goto (tgt := 6) dX2_holds_112 (by decide) ?_
      exact WP_wk (wk_e (wk_u (wk_e (wk_e (wk_e (wk_e (wk_u wk_n))))))) h
    · have h := h.2.2.1 hk
      refine R_tableAt (tgt := 52) (-1) hk dX2_holds_25 (ir_l (by decide) (by decide)) (by decide) rfl (by decide) ?_
      refine R_iload (pc' := 54) dX2_holds_52 rfl rfl ?_
      refine R_iconst (pc' := 55) dX2_holds_54 rfl ?_
      refine R_ixor (pc' := 56) dX2_holds_55 rfl ?_
      refine R_istore (L' := [_, _, _, _, _, _, _]) (pc' := 58) dX2_holds_56 (by decide) rfl rfl rfl ?_
      refine R_goto (tgt := 109) dX2_holds_58 (by decide) ?_
      refine R_iinc (L' := [_, _, _, _, _, _, _]) (pc' := 112) dX2_holds_109 rfl (by decide) rfl rfl rfl ?_
      refine R_goto (tgt := 6) dX2_holds_112 (by decide) ?_
      exact WP_wk (wk_e (wk_u (wk_e (wk_e (wk_e (wk_e (wk_u wk_n))))))) h
    · have h := h.2.2.2 hk
      refine R_tableOut (tgt := 88) dX2_holds_25 hs0 hk (by decide) ?_
      refine R_iload (pc' := 90) dX2_holds_88 rfl rfl ?_
      refine R_iconst (pc' := 91) dX2_holds_90 rfl ?_
      refine R_ishl (pc' := 92) dX2_holds_91 rfl ?_
      refine R_aload_n (pc' := 93) dX2_holds_92 rfl (hou_s ht).1 rfl ?_
      refine Q_getfr (v := (t + 1)) (J := 0) (pc' := 96) rfl dX2_holds_93 l_RX2_9 (hou_s ht) fd2_0.1 fd2_0.2.1 fd2_0.2.2.1 fd2_0.2.2.2 (hou_f0 ht) rfl ?_
      refine R_iload (pc' := 98) dX2_holds_96 rfl rfl ?_
      have hs8 := h.1
      have h := h.2
      refine Q_iaload (N := 100) (pc' := 99) rfl dX2_holds_98 (hou_0 ht) (by decide) hs8 rfl ?_
      refine R_aload_n (pc' := 100) dX2_holds_99 rfl ha3.1 rfl ?_
      refine Q_callSI (vs := [(0, (c (t + 1) a5)), (2, a3)]) (st := [(0, (bShl a4 1))]) (pc' := 103) dX2_holds_100 l_RX2_46 rfl (Nat.le_of_ble_eq_true rfl) rfl (Nat.zero_le _) (Nat.zero_le _) rfl ?_
      refine CI.mono h (fun c9 r10 h => ?_)
      refine Q_callSNI (vs := [(0, r10)]) (st := [(0, (bShl a4 1))]) (pc' := 106) dX2_holds_103 l_RX2_50 rfl (Nat.le_of_ble_eq_true rfl) rfl (Nat.zero_le _) (Nat.zero_le _) rfl ?_
      refine CI.mono h (fun c11 r12 h => ?_)
      refine R_ior (pc' := 107) dX2_holds_106 rfl ?_
      refine R_istore (L' := [_, _, _, _, _, _, _]) (pc' := 109) dX2_holds_107 (by decide) rfl rfl rfl ?_
      refine R_iinc (L' := [_, _, _, _, _, _, _]) (pc' := 112) dX2_holds_109 rfl (by decide) rfl rfl rfl ?_
      refine R_goto (tgt := 6) dX2_holds_112 (by decide) ?_
      exact WP_wk (wk_e (wk_u (wk_e (wk_e (wk_e (wk_e (wk_u wk_n))))))) h
theorem e_X2_holds {K : SK} {d : Nat} {c : ct} {Q : ct → Int → Prop} (t : Int) (ht : isHou t) (a1 : Int) (a2 : Int) (a3 : Int) (ha3 : isS a3 10 6) (h : WI K (d + 1) mX2_holds 0 [(2, t), (0, a1), (0, a2), (2, a3), (9, 0), (9, 0), (9, 0)] [] c Q) : CI K (d + 1) mX2_holds [(2, t), (0, a1), (0, a2), (2, a3)] c Q := CM_ofS (by decide) (Nat.le_of_ble_eq_true rfl) _ rfl h
set_option maxRecDepth 100000 in
theorem s_X2_isSo_0 {K : SK} {d : Nat} {c : ct} {Q : ct → Int → Prop} (a0 : Int) (a1 : Int) (ha1 : isS a1 10 6) (h : (ir (bShr a0 16)) ∧ ((bShr a0 16) < 0 → WI K (d + 1) mX2_isSo 21 [(0, a0), (9, 0), (9, 0), (9, 0), (9, 0)] [] c Q) ∧ (¬ ((bShr a0 16) < 0) → (ir (bShr a0 16)) ∧ (6 ≤ (bShr a0 16) → WI K (d + 1) mX2_isSo 21 [(0, a0), (9, 0), (9, 0), (9, 0), (9, 0)] [] c Q) ∧ (¬ (6 ≤ (bShr a0 16)) → ((0 ≤ (bShr a0 16) ∧ (bShr a0 16) < 6)) ∧ ir (bAnd (bShr a0 8) 255) ∧ ((bAnd (bShr a0 8) 255) = 0 → (ir (c a1 (bShr a0 16)) ∧ ir (bAnd a0 255)) ∧ ((bAnd a0 255) ≤ (c a1 (bShr a0 16)) → Q c 0) ∧ (¬ ((bAnd a0 255) ≤ (c a1 (bShr a0 16))) → Q c 1)) ∧ ((bAnd (bShr a0 8) 255) = 1 → ((c a1 (bShr a0 16)) = (bAnd a0 255) → Q c 1) ∧ (¬ ((c a1 (bShr a0 16)) = (bAnd a0 255)) → (ir (c a1 (bShr a0 16)) ∧ ir (bAnd a0 255)) ∧ Q c 0)) ∧ ((¬ (bAnd (bShr a0 8) 255) = 0 ∧ ¬ (bAnd (bShr a0 8) 255) = 1) → (ir (c a1 (bShr a0 16)) ∧ ir (bAnd a0 255)) ∧ ((c a1 (bShr a0 16)) ≤ (bAnd a0 255) → Q c 0) ∧ (¬ ((c a1 (bShr a0 16)) ≤ (bAnd a0 255)) → Q c 1))))) : WI K (d + 1) mX2_isSo 0 [(0, a0), (2, a1), (9, 0), (9, 0), (9, 0)] [] c Q := by
  refine R_iload_n (pc' := 1) dX2_isSo_0 rfl rfl ?_
  refine R_bipush (pc' := 3) dX2_isSo_1 (by decide) rfl ?_
  refine R_ishr (pc' := 4) dX2_isSo_3 rfl ?_
  refine R_istore_n (L' := [_, _, _, _, _]) (pc' := 5) dX2_isSo_4 (by decide) rfl rfl rfl ?_
  refine R_iload_n (pc' := 6) dX2_isSo_5 rfl rfl ?_
  have hs2 := h.1
  have h := h.2
  refine R_if_lt (tgt := 21) (pc' := 9) dX2_isSo_6 (by decide) hs2  rfl (fun hc1 => ?_) (fun hc1 => ?_)
  · have h := h.1 hc1
    exact WP_wk (wk_e (wk_u (wk_u (wk_u (wk_u wk_n))))) h
  · have h := h.2 hc1
    refine R_iload_n (pc' := 10) dX2_isSo_9 rfl rfl ?_
    refine R_aload_n (pc' := 11) dX2_isSo_10 rfl ha1.1 rfl ?_
    refine Q_alen10 (N := 6) (pc' := 12) rfl dX2_isSo_11 ha1 rfl ?_
    have hs4 := h.1
    have h := h.2
    refine R_icmp_ge (tgt := 21) (pc' := 15) dX2_isSo_12 (by decide) hs4 (ir_l (by decide) (by decide)) rfl (fun hc3 => ?_) (fun hc3 => ?_)
    · have h := h.1 hc3
      exact WP_wk (wk_e (wk_u (wk_u (wk_u (wk_u wk_n))))) h
    · have h := h.2 hc3
      refine R_aload_n (pc' := 16) dX2_isSo_15 rfl ha1.1 rfl ?_
      refine R_iload_n (pc' := 17) dX2_isSo_16 rfl rfl ?_
      have hs5 := h.1
      have h := h.2
      refine Q_iaload (N := 6) (pc' := 18) rfl dX2_isSo_17 ha1 (by decide) hs5 rfl ?_
      refine R_goto (tgt := 22) dX2_isSo_18 (by decide) ?_
      refine R_istore_n (L' := [_, _, _, _, _]) (pc' := 23) dX2_isSo_22 (by decide) rfl rfl rfl ?_
      refine R_iload_n (pc' := 24) dX2_isSo_23 rfl rfl ?_
      refine R_sipush (pc' := 27) dX2_isSo_24 (by decide) rfl ?_
      refine R_iand (pc' := 28) dX2_isSo_27 rfl ?_
      refine R_istore (L' := [_, _, _, _, _]) (pc' := 30) dX2_isSo_28 (by decide) rfl rfl rfl ?_
      refine R_iload_n (pc' := 31) dX2_isSo_30 rfl rfl ?_
      refine R_bipush (pc' := 33) dX2_isSo_31 (by decide) rfl ?_
      refine R_ishr (pc' := 34) dX2_isSo_33 rfl ?_
      refine R_sipush (pc' := 37) dX2_isSo_34 (by decide) rfl ?_
      refine R_iand (pc' := 38) dX2_isSo_37 rfl ?_
      have hs0 := h.1
      have h := h.2
      rcases (show (bAnd (bShr a0 8) 255) = 0 ∨ (bAnd (bShr a0 8) 255) = 1 ∨ (¬ (bAnd (bShr a0 8) 255) = 0 ∧ ¬ (bAnd (bShr a0 8) 255) = 1) by omega) with hk | hk | hk
      · have h := h.1 hk
        refine R_look (tgt := 64) (off := 26) dX2_isSo_38 (by decide) (by rw [hk]; exact ir_l (by decide) (by decide)) (by rw [hk]; first | done | decide) (by decide) ?_
        refine R_iload_n (pc' := 65) dX2_isSo_64 rfl rfl ?_
        refine R_iload (pc' := 67) dX2_isSo_65 rfl rfl ?_
        have hs8 := h.1
        have h := h.2
        refine R_icmp_ge (tgt := 74) (pc' := 70) dX2_isSo_67 (by decide) hs8.1 hs8.2 rfl (fun hc7 => ?_) (fun hc7 => ?_)
        · have h := h.1 hc7
          refine R_iconst (pc' := 75) dX2_isSo_74 rfl ?_
          exact Q_zret dX2_isSo_75 rfl (Or.inl rfl) h
        · have h := h.2 hc7
          refine R_iconst (pc' := 71) dX2_isSo_70 rfl ?_
          refine R_goto (tgt := 75) dX2_isSo_71 (by decide) ?_
          exact Q_zret dX2_isSo_75 rfl (Or.inr rfl) h
      · have h := h.2.1 hk
        refine R_look (tgt := 76) (off := 38) dX2_isSo_38 (by decide) (by rw [hk]; exact ir_l (by decide) (by decide)) (by rw [hk]; first | done | decide) (by decide) ?_
        refine R_iload_n (pc' := 77) dX2_isSo_76 rfl rfl ?_
        refine R_iload (pc' := 79) dX2_isSo_77 rfl rfl ?_
        by_cases hc10 : (c a1 (bShr a0 16)) = (bAnd a0 255)
        · have h := h.1 hc10
          refine R_neS_ic (tgt := 86) (pc' := 82) dX2_isSo_79 (by decide) hc10 rfl ?_
          refine R_iconst (pc' := 83) dX2_isSo_82 rfl ?_
          refine R_goto (tgt := 87) dX2_isSo_83 (by decide) ?_
          exact Q_zret dX2_isSo_87 rfl (Or.inr rfl) h
        · have h := h.2 hc10
          refine R_neD_ic (tgt := 86) (pc' := 82) dX2_isSo_79 (by decide) hc10 h.1 rfl ?_
          have h := h.2
          refine R_iconst (pc' := 87) dX2_isSo_86 rfl ?_
          exact Q_zret dX2_isSo_87 rfl (Or.inl rfl) h
      · have h := h.2.2 hk
        refine R_look (tgt := 88) (off := 50) dX2_isSo_38 (by decide) hs0 (by rw [Op.lookupswitch.offset_cons, if_neg (fun q => hk.1 q.symm), Op.lookupswitch.offset_cons, if_neg (fun q => hk.2 q.symm)]; first | done | rfl) (by decide) ?_
        refine R_iload_n (pc' := 89) dX2_isSo_88 rfl rfl ?_
        refine R_iload (pc' := 91) dX2_isSo_89 rfl rfl ?_
        have hs12 := h.1
        have h := h.2
        refine R_icmp_le (tgt := 98) (pc' := 94) dX2_isSo_91 (by decide) hs12.1 hs12.2 rfl (fun hc11 => ?_) (fun hc11 => ?_)
        · have h := h.1 hc11
          refine R_iconst (pc' := 99) dX2_isSo_98 rfl ?_
          exact Q_zret dX2_isSo_99 rfl (Or.inl rfl) h
        · have h := h.2 hc11
          refine R_iconst (pc' := 95) dX2_isSo_94 rfl ?_
          refine R_goto (tgt := 99) dX2_isSo_95 (by decide) ?_
          exact Q_zret dX2_isSo_99 rfl (Or.inr rfl) h
set_option maxRecDepth 100000 in
theorem s_X2_isSo_21 {K : SK} {d : Nat} {c : ct} {Q : ct → Int → Prop} (a0 : Int) (h : ir (bAnd (bShr a0 8) 255) ∧ ((bAnd (bShr a0 8) 255) = 0 → (ir (bAnd a0 255)) ∧ ((bAnd a0 255) ≤ 0 → Q c 0) ∧ (¬ ((bAnd a0 255) ≤ 0) → Q c 1)) ∧ ((bAnd (bShr a0 8) 255) = 1 → (0 = (bAnd a0 255) → Q c 1) ∧ (¬ (0 = (bAnd a0 255)) → ir (bAnd a0 255) ∧ Q c 0)) ∧ ((¬ (bAnd (bShr a0 8) 255) = 0 ∧ ¬ (bAnd (bShr a0 8) 255) = 1) → (ir (bAnd a0 255)) ∧ (0 ≤ (bAnd a0 255) → Q c 0) ∧ (¬ (0 ≤ (bAnd a0 255)) → Q c 1))) : WI K (d + 1) mX2_isSo 21 [(0, a0), (9, 0), (9, 0), (9, 0), (9, 0)] [] c Q := by
  refine R_iconst (pc' := 22) dX2_isSo_21 rfl ?_
  refine R_istore_n (L' := [_, _, _, _, _]) (pc' := 23) dX2_isSo_22 (by decide) rfl rfl rfl ?_
  refine R_iload_n (pc' := 24) dX2_isSo_23 rfl rfl ?_
  refine R_sipush (pc' := 27) dX2_isSo_24 (by decide) rfl ?_
  refine R_iand (pc' := 28) dX2_isSo_27 rfl ?_
  refine R_istore (L' := [_, _, _, _, _]) (pc' := 30) dX2_isSo_28 (by decide) rfl rfl rfl ?_
  refine R_iload_n (pc' := 31) dX2_isSo_30 rfl rfl ?_
  refine R_bipush (pc' := 33) dX2_isSo_31 (by decide) rfl ?_
  refine R_ishr (pc' := 34) dX2_isSo_33 rfl ?_
  refine R_sipush (pc' := 37) dX2_isSo_34 (by decide) rfl ?_
  refine R_iand (pc' := 38) dX2_isSo_37 rfl ?_
  have hs0 := h.1
  have h := h.2
  rcases (show (bAnd (bShr a0 8) 255) = 0 ∨ (bAnd (bShr a0 8) 255) = 1 ∨ (¬ (bAnd (bShr a0 8) 255) = 0 ∧ ¬ (bAnd (bShr a0 8) 255) = 1) by omega) with hk | hk | hk
  · have h := h.1 hk
    refine R_look (tgt := 64) (off := 26) dX2_isSo_38 (by decide) (by rw [hk]; exact ir_l (by decide) (by decide)) (by rw [hk]; first | done | decide) (by decide) ?_
    refine R_iload_n (pc' := 65) dX2_isSo_64 rfl rfl ?_
    refine R_iload (pc' := 67) dX2_isSo_65 rfl rfl ?_
    have hs3 := h.1
    have h := h.2
    refine R_icmp_ge (tgt := 74) (pc' := 70) dX2_isSo_67 (by decide) (ir_l (by decide) (by decide)) hs3 rfl (fun hc2 => ?_) (fun hc2 => ?_)
    · have h := h.1 hc2
      refine R_iconst (pc' := 75) dX2_isSo_74 rfl ?_
      exact Q_zret dX2_isSo_75 rfl (Or.inl rfl) h
    · have h := h.2 hc2
      refine R_iconst (pc' := 71) dX2_isSo_70 rfl ?_
      refine R_goto (tgt := 75) dX2_isSo_71 (by decide) ?_
      exact Q_zret dX2_isSo_75 rfl (Or.inr rfl) h
  · have h := h.2.1 hk
    refine R_look (tgt := 76) (off := 38) dX2_isSo_38 (by decide) (by rw [hk]; exact ir_l (by decide) (by decide)) (by rw [hk]; first | done | decide) (by decide) ?_
    refine R_iload_n (pc' := 77) dX2_isSo_76 rfl rfl ?_
    refine R_iload (pc' := 79) dX2_isSo_77 rfl rfl ?_
    by_cases hc5 : 0 = (bAnd a0 255)
    · have h := h.1 hc5
      refine R_neS_ic (tgt := 86) (pc' := 82) dX2_isSo_79 (by decide) hc5 rfl ?_
      refine R_iconst (pc' := 83) dX2_isSo_82 rfl ?_
      refine R_goto (tgt := 87) dX2_isSo_83 (by decide) ?_
      exact Q_zret dX2_isSo_87 rfl (Or.inr rfl) h
    · have h := h.2 hc5
      refine R_neD_ic (tgt := 86) (pc' := 82) dX2_isSo_79 (by decide) hc5 ⟨ir_l (by decide) (by decide), h.1⟩ rfl ?_
      have h := h.2
      refine R_iconst (pc' := 87) dX2_isSo_86 rfl ?_
      exact Q_zret dX2_isSo_87 rfl (Or.inl rfl) h
  · have h := h.2.2 hk
    refine R_look (tgt := 88) (off := 50) dX2_isSo_38 (by decide) hs0 (by rw [Op.lookupswitch.offset_cons, if_neg (fun q => hk.1 q.symm), Op.lookupswitch.offset_cons, if_neg (fun q => hk.2 q.symm)]; first | done | rfl) (by decide) ?_
    refine R_iload_n (pc' := 89) dX2_isSo_88 rfl rfl ?_
    refine R_iload (pc' := 91) dX2_isSo_89 rfl rfl ?_
    have hs7 := h.1
    have h := h.2
    refine R_icmp_le (tgt := 98) (pc' := 94) dX2_isSo_91 (by decide) (ir_l (by decide) (by decide)) hs7 rfl (fun hc6 => ?_) (fun hc6 => ?_)
    · have h := h.1 hc6
      refine R_iconst (pc' := 99) dX2_isSo_98 rfl ?_
      exact Q_zret dX2_isSo_99 rfl (Or.inl rfl) h
    · have h := h.2 hc6
      refine R_iconst (pc' := 95) dX2_isSo_94 rfl ?_
      refine R_goto (tgt := 99) dX2_isSo_95 (by decide) ?_
      exact Q_zret dX2_isSo_99 rfl (Or.inr rfl) h
theorem e_X2_isSo {K : SK} {d : Nat} {c : ct} {Q : ct → Int → Prop} (a0 : Int) (a1 : Int) (ha1 : isS a1 10 6) (h : WI K (d + 1) mX2_isSo 0 [(0, a0), (2, a1), (9, 0), (9, 0), (9, 0)] [] c Q) : CI K (d + 1) mX2_isSo [(0, a0), (2, a1)] c Q := CM_ofS (by decide) (Nat.le_of_ble_eq_true rfl) _ rfl h
set_option maxRecDepth 100000 in
theorem s_X3_find_0 {K : SK} {d : Nat} {c : ct} {Q : ct → Prop} (a1 : Int) (ha1 : isTab a1) (a2 : Int) (h : CV K d mX6_copyFrom [(2, 59), (2, a1)] c (fun c1 => WV K (d + 1) mX3_find 10 [(2, 70), (9, 0), (0, a2), (0, 0)] [] c1 Q)) : WV K (d + 1) mX3_find 0 [(2, 70), (2, a1), (0, a2), (9, 0)] [] c Q := by
  refine R_aload_n (pc' := 1) dX3_find_0 rfl i70.1 rfl ?_
  refine Q_getfr (v := 59) (J := 0) (pc' := 4) rfl dX3_find_1 l_RX3_15 i70 fd3_0.1 fd3_0.2.1 fd3_0.2.2.1 fd3_0.2.2.2 f70_0 rfl ?_
  refine R_aload_n (pc' := 5) dX3_find_4 rfl (tab_s ha1).1 rfl ?_
  refine Q_callVV (vs := [(2, a1)]) (st := []) (pc' := 8) dX3_find_5 l_RX3_19 i59 (by decide) rfl rfl (Nat.le_of_ble_eq_true rfl) rfl (Nat.zero_le _) (Nat.zero_le _) rfl ?_
  refine CV.mono h (fun c1 h => ?_)
  refine R_iconst (pc' := 9) dX3_find_8 rfl ?_
  refine R_istore_n (L' := [_, _, _, _]) (pc' := 10) dX3_find_9 (by decide) rfl rfl rfl ?_
  exact WP_wk (wk_e (wk_u (wk_e (wk_e wk_n)))) h
set_option maxRecDepth 100000 in
theorem s_X3_find_10 {K : SK} {d : Nat} {c : ct} {Q : ct → Prop} (a2 : Int) (a3 : Int) (h : (ir a3) ∧ (6 ≤ a3 → ((a2 = 0 ∨ a2 = 1)) ∧ ∀ c3 : ct, c3 = up2 c 70 4 a2 → ∀ c5 : ct, c5 = up2 c3 70 5 1 → CV K d mX3_placeFrom [(2, 70), (0, 0)] c5 (fun c6 => Q c6)) ∧ (¬ (6 ≤ a3) → ((0 ≤ a3 ∧ a3 < 6)) ∧ ∀ c8 : ct, c8 = up2 c 67 a3 (-1) → WV K (d + 1) mX3_find 10 [(2, 70), (9, 0), (0, a2), (0, (a3 + 1))] [] c8 Q)) : WV K (d + 1) mX3_find 10 [(2, 70), (9, 0), (0, a2), (0, a3)] [] c Q := by
  refine R_iload_n (pc' := 11) dX3_find_10 rfl rfl ?_
  refine R_bipush (pc' := 13) dX3_find_11 (by decide) rfl ?_
  have hs2 := h.1
  have h := h.2
  refine R_icmp_ge (tgt := 32) (pc' := 16) dX3_find_13 (by decide) hs2 (ir_l (by decide) (by decide)) rfl (fun hc1 => ?_) (fun hc1 => ?_)
  · have h := h.1 hc1
    refine R_aload_n (pc' := 33) dX3_find_32 rfl i70.1 rfl ?_
    refine R_iload_n (pc' := 34) dX3_find_33 rfl rfl ?_
    have hs4 := h.1
    have h := h.2
    refine Q_putfz (J := 4) (pc' := 37) rfl dX3_find_34 l_RX3_28 i70 fd3_4.1 fd3_4.2.1 fd3_4.2.2.2.1 fd3_4.2.2.2.2 hs4 rfl (fun c3 hc3 => ?_)
    have h := h c3 hc3
    refine R_aload_n (pc' := 38) dX3_find_37 rfl i70.1 rfl ?_
    refine R_iconst (pc' := 39) dX3_find_38 rfl ?_
    refine Q_putfz (J := 5) (pc' := 42) rfl dX3_find_39 l_RX3_32 i70 fd3_5.1 fd3_5.2.1 fd3_5.2.2.2.1 fd3_5.2.2.2.2 (Or.inr rfl) rfl (fun c5 hc5 => ?_)
    have h := h c5 hc5
    refine R_aload_n (pc' := 43) dX3_find_42 rfl i70.1 rfl ?_
    refine R_iconst (pc' := 44) dX3_find_43 rfl ?_
    refine Q_callVV (vs := [(0, 0)]) (st := []) (pc' := 47) dX3_find_44 l_RX3_35 i70 (by decide) rfl rfl (Nat.le_of_ble_eq_true rfl) rfl (Nat.zero_le _) (Nat.zero_le _) rfl ?_
    refine CV.mono h (fun c6 h => ?_)
    exact Q_ret dX3_find_47 rfl h
  · have h := h.2 hc1
    refine R_aload_n (pc' := 17) dX3_find_16 rfl i70.1 rfl ?_
    refine Q_getfr (v := 59) (J := 0) (pc' := 20) rfl dX3_find_17 l_RX3_15 i70 fd3_0.1 fd3_0.2.1 fd3_0.2.2.1 fd3_0.2.2.2 f70_0 rfl ?_
    refine Q_getfNr (v := 67) (J := 7) (pc' := 23) rfl dX3_find_20 l_RX3_25 i59 fd6_7.1 fd6_7.2.1 fd6_7.2.2.1 fd6_7.2.2.2 f59_7 rfl ?_
    refine R_iload_n (pc' := 24) dX3_find_23 rfl rfl ?_
    refine R_iconst (pc' := 25) dX3_find_24 rfl ?_
    have hs9 := h.1
    have h := h.2
    refine Q_iastore (N := 6) (pc' := 26) rfl dX3_find_25 i67 (by decide) hs9  rfl (fun c8 hc8 => ?_)
    have h := h c8 hc8
    refine R_iinc (L' := [_, _, _, _]) (pc' := 29) dX3_find_26 rfl (by decide) rfl rfl rfl ?_
    refine R_goto (tgt := 10) dX3_find_29 (by decide) ?_
    exact WP_wk (wk_e (wk_u (wk_e (wk_e wk_n)))) h
theorem e_X3_find {K : SK} {d : Nat} {c : ct} {Q : ct → Prop} (a1 : Int) (ha1 : isTab a1) (a2 : Int) (h : WV K (d + 1) mX3_find 0 [(2, 70), (2, a1), (0, a2), (9, 0)] [] c Q) : CV K (d + 1) mX3_find [(2, 70), (2, a1), (0, a2)] c Q := CM_ofS (by decide) (Nat.le_of_ble_eq_true rfl) _ rfl h
set_option maxRecDepth 100000 in
theorem s_X3_placeFrom_0 {K : SK} {d : Nat} {c : ct} {Q : ct → Prop} (a1 : Int) (h : (ir a1 ∧ ir (c 59 10)) ∧ (a1 < (c 59 10) → WV K (d + 1) mX3_placeFrom 43 [(2, 70), (0, a1), (0, 0)] [] c Q) ∧ (¬ (a1 < (c 59 10)) → CI K d mX6_fondOfAll [(2, 59)] c (fun c3 r4 => ((c3 70 4) = 0 → CV K d mX3_weigh [(2, 70), (0, r4), (0, 0)] c3 (fun c6 => Q c6)) ∧ (¬ ((c3 70 4) = 0) → ir (c3 70 4) ∧ CI K d mX6_clashes [(2, 59)] c3 (fun c8 r9 => CV K d mX3_weigh [(2, 70), (0, r4), (0, r9)] c8 (fun c10 => Q c10)))))) : WV K (d + 1) mX3_placeFrom 0 [(2, 70), (0, a1), (9, 0)] [] c Q := by
  refine R_iload_n (pc' := 1) dX3_placeFrom_0 rfl rfl ?_
  refine R_aload_n (pc' := 2) dX3_placeFrom_1 rfl i70.1 rfl ?_
  refine Q_getfr (v := 59) (J := 0) (pc' := 5) rfl dX3_placeFrom_2 l_RX3_15 i70 fd3_0.1 fd3_0.2.1 fd3_0.2.2.1 fd3_0.2.2.2 f70_0 rfl ?_
  refine Q_getfNi (J := 10) (pc' := 8) rfl dX3_placeFrom_5 l_RX3_39 i59 fd6_10.1 fd6_10.2.1 fd6_10.2.2.1 rfl ?_
  have hs2 := h.1
  have h := h.2
  refine R_icmp_lt (tgt := 41) (pc' := 11) dX3_placeFrom_8 (by decide) hs2.1 hs2.2 rfl (fun hc1 => ?_) (fun hc1 => ?_)
  · have h := h.1 hc1
    refine R_iconst (pc' := 42) dX3_placeFrom_41 rfl ?_
    refine R_istore_n (L' := [_, _, _]) (pc' := 43) dX3_placeFrom_42 (by decide) rfl rfl rfl ?_
    exact WP_wk (wk_e (wk_e (wk_e wk_n))) h
  · have h := h.2 hc1
    refine R_aload_n (pc' := 12) dX3_placeFrom_11 rfl i70.1 rfl ?_
    refine R_aload_n (pc' := 13) dX3_placeFrom_12 rfl i70.1 rfl ?_
    refine Q_getfr (v := 59) (J := 0) (pc' := 16) rfl dX3_placeFrom_13 l_RX3_15 i70 fd3_0.1 fd3_0.2.1 fd3_0.2.2.1 fd3_0.2.2.2 f70_0 rfl ?_
    refine Q_callVI (vs := []) (st := [(2, 70)]) (pc' := 19) dX3_placeFrom_16 l_RX3_43 i59 (by decide) rfl rfl (Nat.le_of_ble_eq_true rfl) rfl (Nat.zero_le _) (Nat.zero_le _) rfl ?_
    refine CI.mono h (fun c3 r4 h => ?_)
    refine R_aload_n (pc' := 20) dX3_placeFrom_19 rfl i70.1 rfl ?_
    refine Q_getfi (J := 4) (pc' := 23) rfl dX3_placeFrom_20 l_RX3_28 i70 fd3_4.1 fd3_4.2.1 fd3_4.2.2.1 rfl ?_
    by_cases hc5 : (c3 70 4) = 0
    · have h := h.1 hc5
      refine R_eqS_if (tgt := 36) (pc' := 26) dX3_placeFrom_23 (by decide) hc5 rfl ?_
      refine R_iconst (pc' := 37) dX3_placeFrom_36 rfl ?_
      refine Q_callVV (vs := [(0, r4), (0, 0)]) (st := []) (pc' := 40) dX3_placeFrom_37 l_RX3_50 i70 (by decide) rfl rfl (Nat.le_of_ble_eq_true rfl) rfl (Nat.zero_le _) (Nat.zero_le _) rfl ?_
      refine CV.mono h (fun c6 h => ?_)
      exact Q_ret dX3_placeFrom_40 rfl h
    · have h := h.2 hc5
      refine R_eqD_if (tgt := 36) (pc' := 26) dX3_placeFrom_23 (by decide) hc5 h.1 rfl ?_
      have h := h.2
      refine R_aload_n (pc' := 27) dX3_placeFrom_26 rfl i70.1 rfl ?_
      refine Q_getfr (v := 59) (J := 0) (pc' := 30) rfl dX3_placeFrom_27 l_RX3_15 i70 fd3_0.1 fd3_0.2.1 fd3_0.2.2.1 fd3_0.2.2.2 f70_0 rfl ?_
      refine Q_callVI (vs := []) (st := [(0, r4), (2, 70)]) (pc' := 33) dX3_placeFrom_30 l_RX3_47 i59 (by decide) rfl rfl (Nat.le_of_ble_eq_true rfl) rfl (Nat.zero_le _) (Nat.zero_le _) rfl ?_
      refine CI.mono h (fun c8 r9 h => ?_)
      refine R_goto (tgt := 37) dX3_placeFrom_33 (by decide) ?_
      refine Q_callVV (vs := [(0, r4), (0, r9)]) (st := []) (pc' := 40) dX3_placeFrom_37 l_RX3_50 i70 (by decide) rfl rfl (Nat.le_of_ble_eq_true rfl) rfl (Nat.zero_le _) (Nat.zero_le _) rfl ?_
      refine CV.mono h (fun c10 h => ?_)
      exact Q_ret dX3_placeFrom_40 rfl h
set_option maxRecDepth 100000 in
theorem s_X3_placeFrom_43 {K : SK} {d : Nat} {c : ct} {Q : ct → Prop} (a1 : Int) (a2 : Int) (h : (ir a2) ∧ (6 ≤ a2 → Q c) ∧ (¬ (6 ≤ a2) → CV K d mX3_placeOn [(2, 70), (0, a1), (0, a2)] c (fun c3 => WV K (d + 1) mX3_placeFrom 43 [(2, 70), (0, a1), (0, (a2 + 1))] [] c3 Q))) : WV K (d + 1) mX3_placeFrom 43 [(2, 70), (0, a1), (0, a2)] [] c Q := by
  refine R_iload_n (pc' := 44) dX3_placeFrom_43 rfl rfl ?_
  refine R_bipush (pc' := 46) dX3_placeFrom_44 (by decide) rfl ?_
  have hs2 := h.1
  have h := h.2
  refine R_icmp_ge (tgt := 61) (pc' := 49) dX3_placeFrom_46 (by decide) hs2 (ir_l (by decide) (by decide)) rfl (fun hc1 => ?_) (fun hc1 => ?_)
  · have h := h.1 hc1
    exact Q_ret dX3_placeFrom_61 rfl h
  · have h := h.2 hc1
    refine R_aload_n (pc' := 50) dX3_placeFrom_49 rfl i70.1 rfl ?_
    refine R_iload_n (pc' := 51) dX3_placeFrom_50 rfl rfl ?_
    refine R_iload_n (pc' := 52) dX3_placeFrom_51 rfl rfl ?_
    refine Q_callVV (vs := [(0, a1), (0, a2)]) (st := []) (pc' := 55) dX3_placeFrom_52 l_RX3_54 i70 (by decide) rfl rfl (Nat.le_of_ble_eq_true rfl) rfl (Nat.zero_le _) (Nat.zero_le _) rfl ?_
    refine CV.mono h (fun c3 h => ?_)
    refine R_iinc (L' := [_, _, _]) (pc' := 58) dX3_placeFrom_55 rfl (by decide) rfl rfl rfl ?_
    refine R_goto (tgt := 43) dX3_placeFrom_58 (by decide) ?_
    exact WP_wk (wk_e (wk_e (wk_e wk_n))) h
theorem e_X3_placeFrom {K : SK} {d : Nat} {c : ct} {Q : ct → Prop} (a1 : Int) (h : WV K (d + 1) mX3_placeFrom 0 [(2, 70), (0, a1), (9, 0)] [] c Q) : CV K (d + 1) mX3_placeFrom [(2, 70), (0, a1)] c Q := CM_ofS (by decide) (Nat.le_of_ble_eq_true rfl) _ rfl h
set_option maxRecDepth 100000 in
theorem s_X3_placeOn_0 {K : SK} {d : Nat} {c : ct} {Q : ct → Prop} (a1 : Int) (a2 : Int) (h : ((0 ≤ a2 ∧ a2 < 6)) ∧ (ir (c 67 a2)) ∧ (0 ≤ (c 67 a2) → Q c) ∧ (¬ (0 ≤ (c 67 a2)) → CV K d mX6_place [(2, 59), (0, a1), (0, a2)] c (fun c4 => CV K d mX3_placeFrom [(2, 70), (0, (a1 + 1))] c4 (fun c6 => ((0 ≤ a2 ∧ a2 < 6)) ∧ ∀ c8 : ct, c8 = up2 c6 67 a2 (-1) → Q c8)))) : WV K (d + 1) mX3_placeOn 0 [(2, 70), (0, a1), (0, a2)] [] c Q := by
  refine R_aload_n (pc' := 1) dX3_placeOn_0 rfl i70.1 rfl ?_
  refine Q_getfr (v := 59) (J := 0) (pc' := 4) rfl dX3_placeOn_1 l_RX3_15 i70 fd3_0.1 fd3_0.2.1 fd3_0.2.2.1 fd3_0.2.2.2 f70_0 rfl ?_
  refine Q_getfNr (v := 67) (J := 7) (pc' := 7) rfl dX3_placeOn_4 l_RX3_25 i59 fd6_7.1 fd6_7.2.1 fd6_7.2.2.1 fd6_7.2.2.2 f59_7 rfl ?_
  refine R_iload_n (pc' := 8) dX3_placeOn_7 rfl rfl ?_
  have hs1 := h.1
  have h := h.2
  refine Q_iaload (N := 6) (pc' := 9) rfl dX3_placeOn_8 i67 (by decide) hs1 rfl ?_
  have hs3 := h.1
  have h := h.2
  refine R_if_ge (tgt := 38) (pc' := 12) dX3_placeOn_9 (by decide) hs3  rfl (fun hc2 => ?_) (fun hc2 => ?_)
  · have h := h.1 hc2
    exact Q_ret dX3_placeOn_38 rfl h
  · have h := h.2 hc2
    refine R_aload_n (pc' := 13) dX3_placeOn_12 rfl i70.1 rfl ?_
    refine Q_getfr (v := 59) (J := 0) (pc' := 16) rfl dX3_placeOn_13 l_RX3_15 i70 fd3_0.1 fd3_0.2.1 fd3_0.2.2.1 fd3_0.2.2.2 f70_0 rfl ?_
    refine R_iload_n (pc' := 17) dX3_placeOn_16 rfl rfl ?_
    refine R_iload_n (pc' := 18) dX3_placeOn_17 rfl rfl ?_
    refine Q_callVV (vs := [(0, a1), (0, a2)]) (st := []) (pc' := 21) dX3_placeOn_18 l_RX3_57 i59 (by decide) rfl rfl (Nat.le_of_ble_eq_true rfl) rfl (Nat.zero_le _) (Nat.zero_le _) rfl ?_
    refine CV.mono h (fun c4 h => ?_)
    refine R_aload_n (pc' := 22) dX3_placeOn_21 rfl i70.1 rfl ?_
    refine R_iload_n (pc' := 23) dX3_placeOn_22 rfl rfl ?_
    refine R_iconst (pc' := 24) dX3_placeOn_23 rfl ?_
    refine R_iadd (pc' := 25) dX3_placeOn_24 rfl ?_
    refine Q_callVV (vs := [(0, (a1 + 1))]) (st := []) (pc' := 28) dX3_placeOn_25 l_RX3_35 i70 (by decide) rfl rfl (Nat.le_of_ble_eq_true rfl) rfl (Nat.zero_le _) (Nat.zero_le _) rfl ?_
    refine CV.mono h (fun c6 h => ?_)
    refine R_aload_n (pc' := 29) dX3_placeOn_28 rfl i70.1 rfl ?_
    refine Q_getfr (v := 59) (J := 0) (pc' := 32) rfl dX3_placeOn_29 l_RX3_15 i70 fd3_0.1 fd3_0.2.1 fd3_0.2.2.1 fd3_0.2.2.2 f70_0 rfl ?_
    refine Q_getfNr (v := 67) (J := 7) (pc' := 35) rfl dX3_placeOn_32 l_RX3_25 i59 fd6_7.1 fd6_7.2.1 fd6_7.2.2.1 fd6_7.2.2.2 f59_7 rfl ?_
    refine R_iload_n (pc' := 36) dX3_placeOn_35 rfl rfl ?_
    refine R_iconst (pc' := 37) dX3_placeOn_36 rfl ?_
    have hs9 := h.1
    have h := h.2
    refine Q_iastore (N := 6) (pc' := 38) rfl dX3_placeOn_37 i67 (by decide) hs9  rfl (fun c8 hc8 => ?_)
    have h := h c8 hc8
    exact Q_ret dX3_placeOn_38 rfl h
theorem e_X3_placeOn {K : SK} {d : Nat} {c : ct} {Q : ct → Prop} (a1 : Int) (a2 : Int) (h : WV K (d + 1) mX3_placeOn 0 [(2, 70), (0, a1), (0, a2)] [] c Q) : CV K (d + 1) mX3_placeOn [(2, 70), (0, a1), (0, a2)] c Q := CM_ofS (by decide) (Nat.le_of_ble_eq_true rfl) _ rfl h
set_option maxRecDepth 100000 in
theorem s_X3_weigh_0 {K : SK} {d : Nat} {c : ct} {Q : ct → Prop} (a1 : Int) (a2 : Int) (h : (ir a2 ∧ ir (c 70 3)) ∧ (a2 < (c 70 3) → ((c 70 5) = 0 → WV K (d + 1) mX3_weigh 41 [(2, 70), (0, a1), (0, a2), (9, 0)] [] c Q) ∧ (¬ ((c 70 5) = 0) → ir (c 70 5) ∧ WV K (d + 1) mX3_weigh 41 [(2, 70), (0, a1), (0, a2), (9, 0)] [] c Q)) ∧ (¬ (a2 < (c 70 3)) → (a2 = (c 70 3) → (ir a1 ∧ ir (c 70 2)) ∧ (a1 ≤ (c 70 2) → ((c 70 5) = 0 → Q c) ∧ (¬ ((c 70 5) = 0) → ir (c 70 5) ∧ WV K (d + 1) mX3_weigh 41 [(2, 70), (0, a1), (0, a2), (9, 0)] [] c Q)) ∧ (¬ (a1 ≤ (c 70 2)) → ((c 70 5) = 0 → WV K (d + 1) mX3_weigh 41 [(2, 70), (0, a1), (0, a2), (9, 0)] [] c Q) ∧ (¬ ((c 70 5) = 0) → ir (c 70 5) ∧ WV K (d + 1) mX3_weigh 41 [(2, 70), (0, a1), (0, a2), (9, 0)] [] c Q))) ∧ (¬ (a2 = (c 70 3)) → (ir a2 ∧ ir (c 70 3)) ∧ ((c 70 5) = 0 → Q c) ∧ (¬ ((c 70 5) = 0) → ir (c 70 5) ∧ WV K (d + 1) mX3_weigh 41 [(2, 70), (0, a1), (0, a2), (9, 0)] [] c Q)))) : WV K (d + 1) mX3_weigh 0 [(2, 70), (0, a1), (0, a2), (9, 0)] [] c Q := by
  refine R_iload_n (pc' := 1) dX3_weigh_0 rfl rfl ?_
  refine R_aload_n (pc' := 2) dX3_weigh_1 rfl i70.1 rfl ?_
  refine Q_getfi (J := 3) (pc' := 5) rfl dX3_weigh_2 l_RX3_60 i70 fd3_3.1 fd3_3.2.1 fd3_3.2.2.1 rfl ?_
  have hs2 := h.1
  have h := h.2
  refine R_icmp_lt (tgt := 24) (pc' := 8) dX3_weigh_5 (by decide) hs2.1 hs2.2 rfl (fun hc1 => ?_) (fun hc1 => ?_)
  · have h := h.1 hc1
    refine R_iconst (pc' := 25) dX3_weigh_24 rfl ?_
    refine R_goto (tgt := 29) dX3_weigh_25 (by decide) ?_
    refine R_istore_n (L' := [_, _, _, _]) (pc' := 30) dX3_weigh_29 (by decide) rfl rfl rfl ?_
    refine R_aload_n (pc' := 31) dX3_weigh_30 rfl i70.1 rfl ?_
    refine Q_getfi (J := 5) (pc' := 34) rfl dX3_weigh_31 l_RX3_32 i70 fd3_5.1 fd3_5.2.1 fd3_5.2.2.1 rfl ?_
    by_cases hc3 : (c 70 5) = 0
    · have h := h.1 hc3
      refine R_neS_if (tgt := 41) (pc' := 37) dX3_weigh_34 (by decide) hc3 rfl ?_
      refine R_iload_n (pc' := 38) dX3_weigh_37 rfl rfl ?_
      refine R_eqD_if (tgt := 74) (pc' := 41) dX3_weigh_38 (by decide) (by decide) (ir_l (by decide) (by decide)) rfl ?_
      exact WP_wk (wk_e (wk_e (wk_e (wk_u wk_n)))) h
    · have h := h.2 hc3
      refine R_neD_if (tgt := 41) (pc' := 37) dX3_weigh_34 (by decide) hc3 h.1 rfl ?_
      have h := h.2
      exact WP_wk (wk_e (wk_e (wk_e (wk_u wk_n)))) h
  · have h := h.2 hc1
    refine R_iload_n (pc' := 9) dX3_weigh_8 rfl rfl ?_
    refine R_aload_n (pc' := 10) dX3_weigh_9 rfl i70.1 rfl ?_
    refine Q_getfi (J := 3) (pc' := 13) rfl dX3_weigh_10 l_RX3_60 i70 fd3_3.1 fd3_3.2.1 fd3_3.2.2.1 rfl ?_
    by_cases hc4 : a2 = (c 70 3)
    · have h := h.1 hc4
      refine R_neS_ic (tgt := 28) (pc' := 16) dX3_weigh_13 (by decide) hc4 rfl ?_
      refine R_iload_n (pc' := 17) dX3_weigh_16 rfl rfl ?_
      refine R_aload_n (pc' := 18) dX3_weigh_17 rfl i70.1 rfl ?_
      refine Q_getfi (J := 2) (pc' := 21) rfl dX3_weigh_18 l_RX3_62 i70 fd3_2.1 fd3_2.2.1 fd3_2.2.2.1 rfl ?_
      have hs6 := h.1
      have h := h.2
      refine R_icmp_le (tgt := 28) (pc' := 24) dX3_weigh_21 (by decide) hs6.1 hs6.2 rfl (fun hc5 => ?_) (fun hc5 => ?_)
      · have h := h.1 hc5
        refine R_iconst (pc' := 29) dX3_weigh_28 rfl ?_
        refine R_istore_n (L' := [_, _, _, _]) (pc' := 30) dX3_weigh_29 (by decide) rfl rfl rfl ?_
        refine R_aload_n (pc' := 31) dX3_weigh_30 rfl i70.1 rfl ?_
        refine Q_getfi (J := 5) (pc' := 34) rfl dX3_weigh_31 l_RX3_32 i70 fd3_5.1 fd3_5.2.1 fd3_5.2.2.1 rfl ?_
        by_cases hc7 : (c 70 5) = 0
        · have h := h.1 hc7
          refine R_neS_if (tgt := 41) (pc' := 37) dX3_weigh_34 (by decide) hc7 rfl ?_
          refine R_iload_n (pc' := 38) dX3_weigh_37 rfl rfl ?_
          refine R_eqS_if (tgt := 74) (pc' := 41) dX3_weigh_38 (by decide) rfl rfl ?_
          exact Q_ret dX3_weigh_74 rfl h
        · have h := h.2 hc7
          refine R_neD_if (tgt := 41) (pc' := 37) dX3_weigh_34 (by decide) hc7 h.1 rfl ?_
          have h := h.2
          exact WP_wk (wk_e (wk_e (wk_e (wk_u wk_n)))) h
      · have h := h.2 hc5
        refine R_iconst (pc' := 25) dX3_weigh_24 rfl ?_
        refine R_goto (tgt := 29) dX3_weigh_25 (by decide) ?_
        refine R_istore_n (L' := [_, _, _, _]) (pc' := 30) dX3_weigh_29 (by decide) rfl rfl rfl ?_
        refine R_aload_n (pc' := 31) dX3_weigh_30 rfl i70.1 rfl ?_
        refine Q_getfi (J := 5) (pc' := 34) rfl dX3_weigh_31 l_RX3_32 i70 fd3_5.1 fd3_5.2.1 fd3_5.2.2.1 rfl ?_
        by_cases hc8 : (c 70 5) = 0
        · have h := h.1 hc8
          refine R_neS_if (tgt := 41) (pc' := 37) dX3_weigh_34 (by decide) hc8 rfl ?_
          refine R_iload_n (pc' := 38) dX3_weigh_37 rfl rfl ?_
          refine R_eqD_if (tgt := 74) (pc' := 41) dX3_weigh_38 (by decide) (by decide) (ir_l (by decide) (by decide)) rfl ?_
          exact WP_wk (wk_e (wk_e (wk_e (wk_u wk_n)))) h
        · have h := h.2 hc8
          refine R_neD_if (tgt := 41) (pc' := 37) dX3_weigh_34 (by decide) hc8 h.1 rfl ?_
          have h := h.2
          exact WP_wk (wk_e (wk_e (wk_e (wk_u wk_n)))) h
    · have h := h.2 hc4
      refine R_neD_ic (tgt := 28) (pc' := 16) dX3_weigh_13 (by decide) hc4 h.1 rfl ?_
      have h := h.2
      refine R_iconst (pc' := 29) dX3_weigh_28 rfl ?_
      refine R_istore_n (L' := [_, _, _, _]) (pc' := 30) dX3_weigh_29 (by decide) rfl rfl rfl ?_
      refine R_aload_n (pc' := 31) dX3_weigh_30 rfl i70.1 rfl ?_
      refine Q_getfi (J := 5) (pc' := 34) rfl dX3_weigh_31 l_RX3_32 i70 fd3_5.1 fd3_5.2.1 fd3_5.2.2.1 rfl ?_
      by_cases hc9 : (c 70 5) = 0
      · have h := h.1 hc9
        refine R_neS_if (tgt := 41) (pc' := 37) dX3_weigh_34 (by decide) hc9 rfl ?_
        refine R_iload_n (pc' := 38) dX3_weigh_37 rfl rfl ?_
        refine R_eqS_if (tgt := 74) (pc' := 41) dX3_weigh_38 (by decide) rfl rfl ?_
        exact Q_ret dX3_weigh_74 rfl h
      · have h := h.2 hc9
        refine R_neD_if (tgt := 41) (pc' := 37) dX3_weigh_34 (by decide) hc9 h.1 rfl ?_
        have h := h.2
        exact WP_wk (wk_e (wk_e (wk_e (wk_u wk_n)))) h
set_option maxRecDepth 100000 in
theorem s_X3_weigh_41 {K : SK} {d : Nat} {c : ct} {Q : ct → Prop} (a1 : Int) (a2 : Int) (h : ∀ c1 : ct, c1 = up2 c 70 5 0 → ∀ c2 : ct, c2 = up2 c1 70 2 a1 → ∀ c3 : ct, c3 = up2 c2 70 3 a2 → ∀ c4 : ct, c4 = upRow c3 71 (cpyI (c3 62) (c3 71) 0 0 6) → Q c4) : WV K (d + 1) mX3_weigh 41 [(2, 70), (0, a1), (0, a2), (9, 0)] [] c Q := by
  refine R_aload_n (pc' := 42) dX3_weigh_41 rfl i70.1 rfl ?_
  refine R_iconst (pc' := 43) dX3_weigh_42 rfl ?_
  refine Q_putfz (J := 5) (pc' := 46) rfl dX3_weigh_43 l_RX3_32 i70 fd3_5.1 fd3_5.2.1 fd3_5.2.2.2.1 fd3_5.2.2.2.2 (Or.inl rfl) rfl (fun c1 hc1 => ?_)
  have h := h c1 hc1
  refine R_aload_n (pc' := 47) dX3_weigh_46 rfl i70.1 rfl ?_
  refine R_iload_n (pc' := 48) dX3_weigh_47 rfl rfl ?_
  refine Q_putfi (J := 2) (pc' := 51) rfl dX3_weigh_48 l_RX3_62 i70 fd3_2.1 fd3_2.2.1 fd3_2.2.2.2.1 fd3_2.2.2.2.2 rfl (fun c2 hc2 => ?_)
  have h := h c2 hc2
  refine R_aload_n (pc' := 52) dX3_weigh_51 rfl i70.1 rfl ?_
  refine R_iload_n (pc' := 53) dX3_weigh_52 rfl rfl ?_
  refine Q_putfi (J := 3) (pc' := 56) rfl dX3_weigh_53 l_RX3_60 i70 fd3_3.1 fd3_3.2.1 fd3_3.2.2.2.1 fd3_3.2.2.2.2 rfl (fun c3 hc3 => ?_)
  have h := h c3 hc3
  refine R_aload_n (pc' := 57) dX3_weigh_56 rfl i70.1 rfl ?_
  refine Q_getfr (v := 59) (J := 0) (pc' := 60) rfl dX3_weigh_57 l_RX3_15 i70 fd3_0.1 fd3_0.2.1 fd3_0.2.2.1 fd3_0.2.2.2 f70_0 rfl ?_
  refine Q_getfNr (v := 62) (J := 2) (pc' := 63) rfl dX3_weigh_60 l_RX3_65 i59 fd6_2.1 fd6_2.2.1 fd6_2.2.2.1 fd6_2.2.2.2 f59_2 rfl ?_
  refine R_iconst (pc' := 64) dX3_weigh_63 rfl ?_
  refine R_aload_n (pc' := 65) dX3_weigh_64 rfl i70.1 rfl ?_
  refine Q_getfr (v := 71) (J := 1) (pc' := 68) rfl dX3_weigh_65 l_RX3_9 i70 fd3_1.1 fd3_1.2.1 fd3_1.2.2.1 fd3_1.2.2.2 f70_1 rfl ?_
  refine R_iconst (pc' := 69) dX3_weigh_68 rfl ?_
  refine R_bipush (pc' := 71) dX3_weigh_69 (by decide) rfl ?_
  refine Q_cpyi (pc' := 74) dX3_weigh_71 l_RX3_66 (by omega) (Nat.le_of_ble_eq_true rfl) i62 i71 (by decide) (by decide) (by decide) rfl (fun c4 hc4 => ?_)
  have h := h c4 hc4
  exact Q_ret dX3_weigh_74 rfl h
theorem e_X3_weigh {K : SK} {d : Nat} {c : ct} {Q : ct → Prop} (a1 : Int) (a2 : Int) (h : WV K (d + 1) mX3_weigh 0 [(2, 70), (0, a1), (0, a2), (9, 0)] [] c Q) : CV K (d + 1) mX3_weigh [(2, 70), (0, a1), (0, a2)] c Q := CM_ofS (by decide) (Nat.le_of_ble_eq_true rfl) _ rfl h
set_option maxRecDepth 100000 in
theorem s_X4_readInto_0 {K : SK} {d : Nat} {c : ct} {Q : ct → Int → Prop} (a1 : Int) (ha1 : isHou a1) (a2 : Int) (ha2 : isS a2 12 100) (a3 : Int) (h : ∀ c1 : ct, c1 = up2 c 3 0 a1 → ∀ c2 : ct, c2 = up2 c1 3 1 a2 → (ir a3) ∧ ∀ c4 : ct, c4 = up2 c2 3 2 (if 100 < a3 then 100 else a3) → ∀ c5 : ct, c5 = up2 c4 3 3 0 → (isHou (c5 3 0)) ∧ CV K d mX2_clear [(2, (c5 3 0))] c5 (fun c7 => WI K (d + 1) mX4_readInto 35 [(2, 3), (9, 0), (9, 0), (9, 0), (0, 1)] [] c7 Q)) : WI K (d + 1) mX4_readInto 0 [(2, 3), (2, a1), (2, a2), (0, a3), (9, 0)] [] c Q := by
  refine R_aload_n (pc' := 1) dX4_readInto_0 rfl i3.1 rfl ?_
  refine R_aload_n (pc' := 2) dX4_readInto_1 rfl (hou_s ha1).1 rfl ?_
  refine Q_putfr (J := 0) (pc' := 5) rfl dX4_readInto_2 l_RX4_9 i3 fd4_0.1 fd4_0.2.1 fd4_0.2.2.2 fd4_0.2.2.1 (hou_s ha1).2.1 rfl (fun c1 hc1 => ?_)
  have h := h c1 hc1
  refine R_aload_n (pc' := 6) dX4_readInto_5 rfl i3.1 rfl ?_
  refine R_aload_n (pc' := 7) dX4_readInto_6 rfl ha2.1 rfl ?_
  refine Q_putfr (J := 1) (pc' := 10) rfl dX4_readInto_7 l_RX4_15 i3 fd4_1.1 fd4_1.2.1 fd4_1.2.2.2 fd4_1.2.2.1 ha2.2.1 rfl (fun c2 hc2 => ?_)
  have h := h c2 hc2
  refine R_aload_n (pc' := 11) dX4_readInto_10 rfl i3.1 rfl ?_
  refine R_iload_n (pc' := 12) dX4_readInto_11 rfl rfl ?_
  refine R_aload_n (pc' := 13) dX4_readInto_12 rfl ha2.1 rfl ?_
  refine Q_alen12 (N := 100) (pc' := 14) rfl dX4_readInto_13 ha2 rfl ?_
  have hs3 := h.1
  have h := h.2
  refine R_mmin (pc' := 17) dX4_readInto_14 (by omega) hs3 (ir_l (by decide) (by decide)) (Nat.le_of_ble_eq_true rfl) (Nat.zero_le _) (Nat.zero_le _) l_RX4_19 w_mmins w_ini_java_lang_Math w_mminc rfl ?_
  refine Q_putfi (J := 2) (pc' := 20) rfl dX4_readInto_17 l_RX4_25 i3 fd4_2.1 fd4_2.2.1 fd4_2.2.2.2.1 fd4_2.2.2.2.2 rfl (fun c4 hc4 => ?_)
  have h := h c4 hc4
  refine R_aload_n (pc' := 21) dX4_readInto_20 rfl i3.1 rfl ?_
  refine R_iconst (pc' := 22) dX4_readInto_21 rfl ?_
  refine Q_putfi (J := 3) (pc' := 25) rfl dX4_readInto_22 l_RX4_29 i3 fd4_3.1 fd4_3.2.1 fd4_3.2.2.2.1 fd4_3.2.2.2.2 rfl (fun c5 hc5 => ?_)
  have h := h c5 hc5
  refine R_aload_n (pc' := 26) dX4_readInto_25 rfl i3.1 rfl ?_
  have hs6 := h.1
  have h := h.2
  refine Q_getfq (J := 0) (pc' := 29) rfl dX4_readInto_26 l_RX4_9 i3 fd4_0.1 fd4_0.2.1 fd4_0.2.2.1 fd4_0.2.2.2 rfl ?_
  refine Q_callVV (vs := []) (st := []) (pc' := 32) dX4_readInto_29 l_RX4_32 (hou_s hs6) (by decide) rfl rfl (Nat.le_of_ble_eq_true rfl) rfl (Nat.zero_le _) (Nat.zero_le _) rfl ?_
  refine CV.mono h (fun c7 h => ?_)
  refine R_iconst (pc' := 33) dX4_readInto_32 rfl ?_
  refine R_istore (L' := [_, _, _, _, _]) (pc' := 35) dX4_readInto_33 (by decide) rfl rfl rfl ?_
  exact WP_wk (wk_e (wk_u (wk_u (wk_u (wk_e wk_n))))) h
set_option maxRecDepth 100000 in
theorem s_X4_readInto_35 {K : SK} {d : Nat} {c : ct} {Q : ct → Int → Prop} (a4 : Int) (h : (ir a4) ∧ (10 < a4 → Q c (c 3 3)) ∧ (¬ (10 < a4) → CI K d mX4_isClause [(2, 3)] c (fun c3 r4 => (r4 = 0 → Q c3 (c3 3 3)) ∧ (¬ (r4 = 0) → ir r4 ∧ (ir (c3 3 3) ∧ ir (c3 3 2)) ∧ ((c3 3 3) < (c3 3 2) → (a4 = 10 → Q c3 (c3 3 3)) ∧ (¬ (a4 = 10) → ir a4 ∧ CI K d mX4_isSign [(2, 3), (0, 59)] c3 (fun c9 r10 => (r10 = 0 → Q c9 (c9 3 3)) ∧ (¬ (r10 = 0) → ir r10 ∧ WI K (d + 1) mX4_readInto 35 [(2, 3), (9, 0), (9, 0), (9, 0), (0, (a4 + 1))] [] c9 Q)))) ∧ (¬ ((c3 3 3) < (c3 3 2)) → Q c3 (-1)))))) : WI K (d + 1) mX4_readInto 35 [(2, 3), (9, 0), (9, 0), (9, 0), (0, a4)] [] c Q := by
  refine R_iload (pc' := 37) dX4_readInto_35 rfl rfl ?_
  refine R_bipush (pc' := 39) dX4_readInto_37 (by decide) rfl ?_
  have hs2 := h.1
  have h := h.2
  refine R_icmp_gt (tgt := 94) (pc' := 42) dX4_readInto_39 (by decide) hs2 (ir_l (by decide) (by decide)) rfl (fun hc1 => ?_) (fun hc1 => ?_)
  · have h := h.1 hc1
    refine R_aload_n (pc' := 95) dX4_readInto_94 rfl i3.1 rfl ?_
    refine Q_getfi (J := 3) (pc' := 98) rfl dX4_readInto_95 l_RX4_29 i3 fd4_3.1 fd4_3.2.1 fd4_3.2.2.1 rfl ?_
    exact Q_iret dX4_readInto_98 rfl h
  · have h := h.2 hc1
    refine R_aload_n (pc' := 43) dX4_readInto_42 rfl i3.1 rfl ?_
    refine Q_callVI (vs := []) (st := []) (pc' := 46) dX4_readInto_43 l_RX4_37 i3 (by decide) rfl rfl (Nat.le_of_ble_eq_true rfl) rfl (Nat.zero_le _) (Nat.zero_le _) rfl ?_
    refine CI.mono h (fun c3 r4 h => ?_)
    by_cases hc5 : r4 = 0
    · have h := h.1 hc5
      refine R_neS_if (tgt := 54) (pc' := 49) dX4_readInto_46 (by decide) hc5 rfl ?_
      refine R_aload_n (pc' := 50) dX4_readInto_49 rfl i3.1 rfl ?_
      refine Q_getfi (J := 3) (pc' := 53) rfl dX4_readInto_50 l_RX4_29 i3 fd4_3.1 fd4_3.2.1 fd4_3.2.2.1 rfl ?_
      exact Q_iret dX4_readInto_53 rfl h
    · have h := h.2 hc5
      refine R_neD_if (tgt := 54) (pc' := 49) dX4_readInto_46 (by decide) hc5 h.1 rfl ?_
      have h := h.2
      refine R_aload_n (pc' := 55) dX4_readInto_54 rfl i3.1 rfl ?_
      refine Q_getfi (J := 3) (pc' := 58) rfl dX4_readInto_55 l_RX4_29 i3 fd4_3.1 fd4_3.2.1 fd4_3.2.2.1 rfl ?_
      refine R_aload_n (pc' := 59) dX4_readInto_58 rfl i3.1 rfl ?_
      refine Q_getfi (J := 2) (pc' := 62) rfl dX4_readInto_59 l_RX4_25 i3 fd4_2.1 fd4_2.2.1 fd4_2.2.2.1 rfl ?_
      have hs7 := h.1
      have h := h.2
      refine R_icmp_lt (tgt := 67) (pc' := 65) dX4_readInto_62 (by decide) hs7.1 hs7.2 rfl (fun hc6 => ?_) (fun hc6 => ?_)
      · have h := h.1 hc6
        refine R_iload (pc' := 69) dX4_readInto_67 rfl rfl ?_
        refine R_bipush (pc' := 71) dX4_readInto_69 (by decide) rfl ?_
        by_cases hc8 : a4 = 10
        · have h := h.1 hc8
          refine R_eqS_ic (tgt := 83) (pc' := 74) dX4_readInto_71 (by decide) hc8 rfl ?_
          refine R_aload_n (pc' := 84) dX4_readInto_83 rfl i3.1 rfl ?_
          refine Q_getfi (J := 3) (pc' := 87) rfl dX4_readInto_84 l_RX4_29 i3 fd4_3.1 fd4_3.2.1 fd4_3.2.2.1 rfl ?_
          exact Q_iret dX4_readInto_87 rfl h
        · have h := h.2 hc8
          refine R_eqD_ic (tgt := 83) (pc' := 74) dX4_readInto_71 (by decide) hc8 ⟨h.1, ir_l (by decide) (by decide)⟩ rfl ?_
          have h := h.2
          refine R_aload_n (pc' := 75) dX4_readInto_74 rfl i3.1 rfl ?_
          refine R_bipush (pc' := 77) dX4_readInto_75 (by decide) rfl ?_
          refine Q_callVI (vs := [(0, 59)]) (st := []) (pc' := 80) dX4_readInto_77 l_RX4_41 i3 (by decide) rfl rfl (Nat.le_of_ble_eq_true rfl) rfl (Nat.zero_le _) (Nat.zero_le _) rfl ?_
          refine CI.mono h (fun c9 r10 h => ?_)
          by_cases hc11 : r10 = 0
          · have h := h.1 hc11
            refine R_neS_if (tgt := 88) (pc' := 83) dX4_readInto_80 (by decide) hc11 rfl ?_
            refine R_aload_n (pc' := 84) dX4_readInto_83 rfl i3.1 rfl ?_
            refine Q_getfi (J := 3) (pc' := 87) rfl dX4_readInto_84 l_RX4_29 i3 fd4_3.1 fd4_3.2.1 fd4_3.2.2.1 rfl ?_
            exact Q_iret dX4_readInto_87 rfl h
          · have h := h.2 hc11
            refine R_neD_if (tgt := 88) (pc' := 83) dX4_readInto_80 (by decide) hc11 h.1 rfl ?_
            have h := h.2
            refine R_iinc (L' := [_, _, _, _, _]) (pc' := 91) dX4_readInto_88 rfl (by decide) rfl rfl rfl ?_
            refine R_goto (tgt := 35) dX4_readInto_91 (by decide) ?_
            exact WP_wk (wk_e (wk_u (wk_u (wk_u (wk_e wk_n))))) h
      · have h := h.2 hc6
        refine R_iconst (pc' := 66) dX4_readInto_65 rfl ?_
        exact Q_iret dX4_readInto_66 rfl h
theorem e_X4_readInto {K : SK} {d : Nat} {c : ct} {Q : ct → Int → Prop} (a1 : Int) (ha1 : isHou a1) (a2 : Int) (ha2 : isS a2 12 100) (a3 : Int) (h : WI K (d + 1) mX4_readInto 0 [(2, 3), (2, a1), (2, a2), (0, a3), (9, 0)] [] c Q) : CI K (d + 1) mX4_readInto [(2, 3), (2, a1), (2, a2), (0, a3)] c Q := CM_ofS (by decide) (Nat.le_of_ble_eq_true rfl) _ rfl h
set_option maxRecDepth 100000 in
theorem s_X4_isClause_0 {K : SK} {d : Nat} {c : ct} {Q : ct → Int → Prop}  (h : CI K d mX4_next [(2, 3)] c (fun c1 r2 => CA K d mX4_wordFrom [(0, r2)] c1 (fun c3 r4 => ∃ si5 : Nat, si5 < 4 ∧ r4 = ((6 + si5 : Nat) : Int) ∧ CI K d mX4_isWord [(2, 3), (3, ((6 + si5 : Nat) : Int))] c3 (fun c6 r7 => (r7 = 0 → Q c6 0) ∧ (¬ (r7 = 0) → ir r7 ∧ CI K d mX4_isNumber [(2, 3)] c6 (fun c9 r10 => (r10 = 0 → Q c9 0) ∧ (¬ (r10 = 0) → ir r10 ∧ (r2 = 116 → (isHou (c9 3 0)) ∧ ∀ c14 : ct, c14 = up2 c9 (c9 3 0) 5 (c9 3 4) → Q c14 1) ∧ (¬ (r2 = 116) → ir r2 ∧ (r2 = 119 → (isHou (c9 3 0)) ∧ ∀ c17 : ct, c17 = up2 c9 (c9 3 0) 6 (c9 3 4) → Q c17 1) ∧ (¬ (r2 = 119) → ir r2 ∧ CI K d mX4_isSign [(2, 3), (0, 32)] c9 (fun c18 r19 => (r19 = 0 → Q c18 0) ∧ (¬ (r19 = 0) → ir r19 ∧ CI K d mX4_isEither [(2, 3), (0, 0)] c18 (fun c21 r22 => (r22 = 0 → Q c21 0) ∧ (¬ (r22 = 0) → ir r22 ∧ (isHou (c21 3 0)) ∧ (r2 = 98 → CV K d mX2_addWeight [(2, (c21 3 0)), (0, (c9 3 4))] c21 (fun c26 => Q c26 1)) ∧ (¬ (r2 = 98) → ir r2 ∧ CV K d mX2_addWeight [(2, (c21 3 0)), (0, (-(c9 3 4)))] c21 (fun c28 => Q c28 1))))))))))))))) : WI K (d + 1) mX4_isClause 0 [(2, 3), (9, 0), (9, 0)] [] c Q := by
  refine R_aload_n (pc' := 1) dX4_isClause_0 rfl i3.1 rfl ?_
  refine Q_callVI (vs := []) (st := []) (pc' := 4) dX4_isClause_1 l_RX4_45 i3 (by decide) rfl rfl (Nat.le_of_ble_eq_true rfl) rfl (Nat.zero_le _) (Nat.zero_le _) rfl ?_
  refine CI.mono h (fun c1 r2 h => ?_)
  refine R_istore_n (L' := [_, _, _]) (pc' := 5) dX4_isClause_4 (by decide) rfl rfl rfl ?_
  refine R_aload_n (pc' := 6) dX4_isClause_5 rfl i3.1 rfl ?_
  refine R_iload_n (pc' := 7) dX4_isClause_6 rfl rfl ?_
  refine Q_callSA (vs := [(0, r2)]) (st := [(2, 3)]) (pc' := 10) dX4_isClause_7 l_RX4_49 rfl (Nat.le_of_ble_eq_true rfl) rfl (Nat.zero_le _) (Nat.zero_le _) rfl ?_
  refine CA.mono h (fun c3 r4 h => ?_)
  obtain ⟨si5, hsi5, hr4, h⟩ := h
  subst hr4
  refine Q_callVI (vs := [(3, ((6 + si5 : Nat) : Int))]) (st := []) (pc' := 13) dX4_isClause_10 l_RX4_53 i3 (by decide) rfl rfl (Nat.le_of_ble_eq_true rfl) rfl (Nat.zero_le _) (Nat.zero_le _) rfl ?_
  refine CI.mono h (fun c6 r7 h => ?_)
  by_cases hc8 : r7 = 0
  · have h := h.1 hc8
    refine R_eqS_if (tgt := 23) (pc' := 16) dX4_isClause_13 (by decide) hc8 rfl ?_
    refine R_iconst (pc' := 24) dX4_isClause_23 rfl ?_
    exact Q_zret dX4_isClause_24 rfl (Or.inl rfl) h
  · have h := h.2 hc8
    refine R_eqD_if (tgt := 23) (pc' := 16) dX4_isClause_13 (by decide) hc8 h.1 rfl ?_
    have h := h.2
    refine R_aload_n (pc' := 17) dX4_isClause_16 rfl i3.1 rfl ?_
    refine Q_callVI (vs := []) (st := []) (pc' := 20) dX4_isClause_17 l_RX4_57 i3 (by decide) rfl rfl (Nat.le_of_ble_eq_true rfl) rfl (Nat.zero_le _) (Nat.zero_le _) rfl ?_
    refine CI.mono h (fun c9 r10 h => ?_)
    by_cases hc11 : r10 = 0
    · have h := h.1 hc11
      refine R_neS_if (tgt := 25) (pc' := 23) dX4_isClause_20 (by decide) hc11 rfl ?_
      refine R_iconst (pc' := 24) dX4_isClause_23 rfl ?_
      exact Q_zret dX4_isClause_24 rfl (Or.inl rfl) h
    · have h := h.2 hc11
      refine R_neD_if (tgt := 25) (pc' := 23) dX4_isClause_20 (by decide) hc11 h.1 rfl ?_
      have h := h.2
      refine R_aload_n (pc' := 26) dX4_isClause_25 rfl i3.1 rfl ?_
      refine Q_getfi (J := 4) (pc' := 29) rfl dX4_isClause_26 l_RX4_60 i3 fd4_4.1 fd4_4.2.1 fd4_4.2.2.1 rfl ?_
      refine R_istore_n (L' := [_, _, _]) (pc' := 30) dX4_isClause_29 (by decide) rfl rfl rfl ?_
      refine R_iload_n (pc' := 31) dX4_isClause_30 rfl rfl ?_
      refine R_bipush (pc' := 33) dX4_isClause_31 (by decide) rfl ?_
      by_cases hc12 : r2 = 116
      · have h := h.1 hc12
        refine R_neS_ic (tgt := 47) (pc' := 36) dX4_isClause_33 (by decide) hc12 rfl ?_
        refine R_aload_n (pc' := 37) dX4_isClause_36 rfl i3.1 rfl ?_
        have hs13 := h.1
        have h := h.2
        refine Q_getfq (J := 0) (pc' := 40) rfl dX4_isClause_37 l_RX4_9 i3 fd4_0.1 fd4_0.2.1 fd4_0.2.2.1 fd4_0.2.2.2 rfl ?_
        refine R_iload_n (pc' := 41) dX4_isClause_40 rfl rfl ?_
        refine Q_putfNi (J := 5) (pc' := 44) rfl dX4_isClause_41 l_RX4_63 (hou_s hs13) fd2_5.1 fd2_5.2.1 fd2_5.2.2.2.1 fd2_5.2.2.2.2 rfl (fun c14 hc14 => ?_)
        have h := h c14 hc14
        refine R_goto (tgt := 105) dX4_isClause_44 (by decide) ?_
        refine R_iconst (pc' := 106) dX4_isClause_105 rfl ?_
        exact Q_zret dX4_isClause_106 rfl (Or.inr rfl) h
      · have h := h.2 hc12
        refine R_neD_ic (tgt := 47) (pc' := 36) dX4_isClause_33 (by decide) hc12 ⟨h.1, ir_l (by decide) (by decide)⟩ rfl ?_
        have h := h.2
        refine R_iload_n (pc' := 48) dX4_isClause_47 rfl rfl ?_
        refine R_bipush (pc' := 50) dX4_isClause_48 (by decide) rfl ?_
        by_cases hc15 : r2 = 119
        · have h := h.1 hc15
          refine R_neS_ic (tgt := 64) (pc' := 53) dX4_isClause_50 (by decide) hc15 rfl ?_
          refine R_aload_n (pc' := 54) dX4_isClause_53 rfl i3.1 rfl ?_
          have hs16 := h.1
          have h := h.2
          refine Q_getfq (J := 0) (pc' := 57) rfl dX4_isClause_54 l_RX4_9 i3 fd4_0.1 fd4_0.2.1 fd4_0.2.2.1 fd4_0.2.2.2 rfl ?_
          refine R_iload_n (pc' := 58) dX4_isClause_57 rfl rfl ?_
          refine Q_putfNi (J := 6) (pc' := 61) rfl dX4_isClause_58 l_RX4_66 (hou_s hs16) fd2_6.1 fd2_6.2.1 fd2_6.2.2.2.1 fd2_6.2.2.2.2 rfl (fun c17 hc17 => ?_)
          have h := h c17 hc17
          refine R_goto (tgt := 105) dX4_isClause_61 (by decide) ?_
          refine R_iconst (pc' := 106) dX4_isClause_105 rfl ?_
          exact Q_zret dX4_isClause_106 rfl (Or.inr rfl) h
        · have h := h.2 hc15
          refine R_neD_ic (tgt := 64) (pc' := 53) dX4_isClause_50 (by decide) hc15 ⟨h.1, ir_l (by decide) (by decide)⟩ rfl ?_
          have h := h.2
          refine R_aload_n (pc' := 65) dX4_isClause_64 rfl i3.1 rfl ?_
          refine R_bipush (pc' := 67) dX4_isClause_65 (by decide) rfl ?_
          refine Q_callVI (vs := [(0, 32)]) (st := []) (pc' := 70) dX4_isClause_67 l_RX4_41 i3 (by decide) rfl rfl (Nat.le_of_ble_eq_true rfl) rfl (Nat.zero_le _) (Nat.zero_le _) rfl ?_
          refine CI.mono h (fun c18 r19 h => ?_)
          by_cases hc20 : r19 = 0
          · have h := h.1 hc20
            refine R_eqS_if (tgt := 103) (pc' := 73) dX4_isClause_70 (by decide) hc20 rfl ?_
            refine R_iconst (pc' := 104) dX4_isClause_103 rfl ?_
            exact Q_zret dX4_isClause_104 rfl (Or.inl rfl) h
          · have h := h.2 hc20
            refine R_eqD_if (tgt := 103) (pc' := 73) dX4_isClause_70 (by decide) hc20 h.1 rfl ?_
            have h := h.2
            refine R_aload_n (pc' := 74) dX4_isClause_73 rfl i3.1 rfl ?_
            refine R_iconst (pc' := 75) dX4_isClause_74 rfl ?_
            refine Q_callVI (vs := [(0, 0)]) (st := []) (pc' := 78) dX4_isClause_75 l_RX4_69 i3 (by decide) rfl rfl (Nat.le_of_ble_eq_true rfl) rfl (Nat.zero_le _) (Nat.zero_le _) rfl ?_
            refine CI.mono h (fun c21 r22 h => ?_)
            by_cases hc23 : r22 = 0
            · have h := h.1 hc23
              refine R_eqS_if (tgt := 103) (pc' := 81) dX4_isClause_78 (by decide) hc23 rfl ?_
              refine R_iconst (pc' := 104) dX4_isClause_103 rfl ?_
              exact Q_zret dX4_isClause_104 rfl (Or.inl rfl) h
            · have h := h.2 hc23
              refine R_eqD_if (tgt := 103) (pc' := 81) dX4_isClause_78 (by decide) hc23 h.1 rfl ?_
              have h := h.2
              refine R_aload_n (pc' := 82) dX4_isClause_81 rfl i3.1 rfl ?_
              have hs24 := h.1
              have h := h.2
              refine Q_getfq (J := 0) (pc' := 85) rfl dX4_isClause_82 l_RX4_9 i3 fd4_0.1 fd4_0.2.1 fd4_0.2.2.1 fd4_0.2.2.2 rfl ?_
              refine R_iload_n (pc' := 86) dX4_isClause_85 rfl rfl ?_
              refine R_bipush (pc' := 88) dX4_isClause_86 (by decide) rfl ?_
              by_cases hc25 : r2 = 98
              · have h := h.1 hc25
                refine R_neS_ic (tgt := 95) (pc' := 91) dX4_isClause_88 (by decide) hc25 rfl ?_
                refine R_iload_n (pc' := 92) dX4_isClause_91 rfl rfl ?_
                refine R_goto (tgt := 97) dX4_isClause_92 (by decide) ?_
                refine Q_callVV (vs := [(0, (c9 3 4))]) (st := []) (pc' := 100) dX4_isClause_97 l_RX4_72 (hou_s hs24) (by decide) rfl rfl (Nat.le_of_ble_eq_true rfl) rfl (Nat.zero_le _) (Nat.zero_le _) rfl ?_
                refine CV.mono h (fun c26 h => ?_)
                refine R_goto (tgt := 105) dX4_isClause_100 (by decide) ?_
                refine R_iconst (pc' := 106) dX4_isClause_105 rfl ?_
                exact Q_zret dX4_isClause_106 rfl (Or.inr rfl) h
              · have h := h.2 hc25
                refine R_neD_ic (tgt := 95) (pc' := 91) dX4_isClause_88 (by decide) hc25 ⟨h.1, ir_l (by decide) (by decide)⟩ rfl ?_
                have h := h.2
                refine R_iload_n (pc' := 96) dX4_isClause_95 rfl rfl ?_
                refine R_ineg (pc' := 97) dX4_isClause_96 rfl ?_
                refine Q_callVV (vs := [(0, (-(c9 3 4)))]) (st := []) (pc' := 100) dX4_isClause_97 l_RX4_72 (hou_s hs24) (by decide) rfl rfl (Nat.le_of_ble_eq_true rfl) rfl (Nat.zero_le _) (Nat.zero_le _) rfl ?_
                refine CV.mono h (fun c28 h => ?_)
                refine R_goto (tgt := 105) dX4_isClause_100 (by decide) ?_
                refine R_iconst (pc' := 106) dX4_isClause_105 rfl ?_
                exact Q_zret dX4_isClause_106 rfl (Or.inr rfl) h
theorem e_X4_isClause {K : SK} {d : Nat} {c : ct} {Q : ct → Int → Prop}  (h : WI K (d + 1) mX4_isClause 0 [(2, 3), (9, 0), (9, 0)] [] c Q) : CI K (d + 1) mX4_isClause [(2, 3)] c Q := CM_ofS (by decide) (Nat.le_of_ble_eq_true rfl) _ rfl h
set_option maxRecDepth 100000 in
theorem s_X4_wordFrom_0 {K : SK} {d : Nat} {c : ct} {Q : ct → Int → Prop} (a0 : Int) (h : ir a0 ∧ (a0 = 98 → Q c ((6 + 0 : Nat) : Int)) ∧ (a0 = 115 → Q c ((6 + 1 : Nat) : Int)) ∧ (a0 = 116 → Q c ((6 + 2 : Nat) : Int)) ∧ ((¬ a0 = 98 ∧ ¬ a0 = 115 ∧ ¬ a0 = 116) → Q c ((6 + 3 : Nat) : Int))) : WA K (d + 1) mX4_wordFrom 0 [(0, a0)] [] c Q := by
  refine R_iload_n (pc' := 1) dX4_wordFrom_0 rfl rfl ?_
  have hs0 := h.1
  have h := h.2
  rcases (show a0 = 98 ∨ a0 = 115 ∨ a0 = 116 ∨ (¬ a0 = 98 ∧ ¬ a0 = 115 ∧ ¬ a0 = 116) by omega) with hk | hk | hk | hk
  · have h := h.1 hk
    refine R_look (tgt := 36) (off := 35) dX4_wordFrom_1 (by decide) (by rw [hk]; exact ir_l (by decide) (by decide)) (by rw [hk]; first | done | decide) (by decide) ?_
    refine R_ldcS (i := 0) (pc' := 38) dX4_wordFrom_36 rfl (by decide) rfl ?_
    exact Q_aret dX4_wordFrom_38 rfl h
  · have h := h.2.1 hk
    refine R_look (tgt := 39) (off := 38) dX4_wordFrom_1 (by decide) (by rw [hk]; exact ir_l (by decide) (by decide)) (by rw [hk]; first | done | decide) (by decide) ?_
    refine R_ldcS (i := 1) (pc' := 41) dX4_wordFrom_39 rfl (by decide) rfl ?_
    exact Q_aret dX4_wordFrom_41 rfl h
  · have h := h.2.2.1 hk
    refine R_look (tgt := 42) (off := 41) dX4_wordFrom_1 (by decide) (by rw [hk]; exact ir_l (by decide) (by decide)) (by rw [hk]; first | done | decide) (by decide) ?_
    refine R_ldcS (i := 2) (pc' := 44) dX4_wordFrom_42 rfl (by decide) rfl ?_
    exact Q_aret dX4_wordFrom_44 rfl h
  · have h := h.2.2.2 hk
    refine R_look (tgt := 45) (off := 44) dX4_wordFrom_1 (by decide) hs0 (by rw [Op.lookupswitch.offset_cons, if_neg (fun q => hk.1 q.symm), Op.lookupswitch.offset_cons, if_neg (fun q => hk.2.1 q.symm), Op.lookupswitch.offset_cons, if_neg (fun q => hk.2.2 q.symm)]; first | done | rfl) (by decide) ?_
    refine R_ldcS (i := 3) (pc' := 47) dX4_wordFrom_45 rfl (by decide) rfl ?_
    exact Q_aret dX4_wordFrom_47 rfl h
theorem e_X4_wordFrom {K : SK} {d : Nat} {c : ct} {Q : ct → Int → Prop} (a0 : Int) (h : WA K (d + 1) mX4_wordFrom 0 [(0, a0)] [] c Q) : CA K (d + 1) mX4_wordFrom [(0, a0)] c Q := CM_ofS (by decide) (Nat.le_of_ble_eq_true rfl) _ rfl h
set_option maxRecDepth 100000 in
theorem s_X4_isEither_0 {K : SK} {d : Nat} {c : ct} {Q : ct → Int → Prop} (a1 : Int) (h : WI K (d + 1) mX4_isEither 7 [(2, 3), (0, a1), (0, 0), (0, 0), (0, 0)] [] c Q) : WI K (d + 1) mX4_isEither 0 [(2, 3), (0, a1), (9, 0), (9, 0), (9, 0)] [] c Q := by
  refine R_iconst (pc' := 1) dX4_isEither_0 rfl ?_
  refine R_istore_n (L' := [_, _, _, _, _]) (pc' := 2) dX4_isEither_1 (by decide) rfl rfl rfl ?_
  refine R_iconst (pc' := 3) dX4_isEither_2 rfl ?_
  refine R_istore_n (L' := [_, _, _, _, _]) (pc' := 4) dX4_isEither_3 (by decide) rfl rfl rfl ?_
  refine R_iconst (pc' := 5) dX4_isEither_4 rfl ?_
  refine R_istore (L' := [_, _, _, _, _]) (pc' := 7) dX4_isEither_5 (by decide) rfl rfl rfl ?_
  exact WP_wk (wk_e (wk_e (wk_e (wk_e (wk_e wk_n))))) h
set_option maxRecDepth 100000 in
theorem s_X4_isEither_7 {K : SK} {d : Nat} {c : ct} {Q : ct → Int → Prop} (a1 : Int) (a2 : Int) (a3 : Int) (a4 : Int) (h : (ir a4) ∧ (100 ≤ a4 → Q c 0) ∧ (¬ (100 ≤ a4) → CI K d mX4_isFactor [(2, 3), (0, a1)] c (fun c3 r4 => (r4 = 0 → Q c3 0) ∧ (¬ (r4 = 0) → ir r4 ∧ (a2 = 0 → WI K (d + 1) mX4_isEither 37 [(2, 3), (0, a1), (9, 0), (0, a3), (0, a4)] [] c3 Q) ∧ (¬ (a2 = 0) → ir a2 ∧ (isHou (c3 3 0)) ∧ CV K d mX2_addStep [(2, (c3 3 0)), (0, (-2))] c3 (fun c8 => WI K (d + 1) mX4_isEither 37 [(2, 3), (0, a1), (9, 0), (0, a3), (0, a4)] [] c8 Q)))))) : WI K (d + 1) mX4_isEither 7 [(2, 3), (0, a1), (0, a2), (0, a3), (0, a4)] [] c Q := by
  refine R_iload (pc' := 9) dX4_isEither_7 rfl rfl ?_
  refine R_bipush (pc' := 11) dX4_isEither_9 (by decide) rfl ?_
  have hs2 := h.1
  have h := h.2
  refine R_icmp_ge (tgt := 83) (pc' := 14) dX4_isEither_11 (by decide) hs2 (ir_l (by decide) (by decide)) rfl (fun hc1 => ?_) (fun hc1 => ?_)
  · have h := h.1 hc1
    refine R_iconst (pc' := 84) dX4_isEither_83 rfl ?_
    exact Q_zret dX4_isEither_84 rfl (Or.inl rfl) h
  · have h := h.2 hc1
    refine R_aload_n (pc' := 15) dX4_isEither_14 rfl i3.1 rfl ?_
    refine R_iload_n (pc' := 16) dX4_isEither_15 rfl rfl ?_
    refine Q_callVI (vs := [(0, a1)]) (st := []) (pc' := 19) dX4_isEither_16 l_RX4_84 i3 (by decide) rfl rfl (Nat.le_of_ble_eq_true rfl) rfl (Nat.zero_le _) (Nat.zero_le _) rfl ?_
    refine CI.mono h (fun c3 r4 h => ?_)
    by_cases hc5 : r4 = 0
    · have h := h.1 hc5
      refine R_neS_if (tgt := 24) (pc' := 22) dX4_isEither_19 (by decide) hc5 rfl ?_
      refine R_iconst (pc' := 23) dX4_isEither_22 rfl ?_
      exact Q_zret dX4_isEither_23 rfl (Or.inl rfl) h
    · have h := h.2 hc5
      refine R_neD_if (tgt := 24) (pc' := 22) dX4_isEither_19 (by decide) hc5 h.1 rfl ?_
      have h := h.2
      refine R_iload_n (pc' := 25) dX4_isEither_24 rfl rfl ?_
      by_cases hc6 : a2 = 0
      · have h := h.1 hc6
        refine R_eqS_if (tgt := 37) (pc' := 28) dX4_isEither_25 (by decide) hc6 rfl ?_
        exact WP_wk (wk_e (wk_e (wk_u (wk_e (wk_e wk_n))))) h
      · have h := h.2 hc6
        refine R_eqD_if (tgt := 37) (pc' := 28) dX4_isEither_25 (by decide) hc6 h.1 rfl ?_
        have h := h.2
        refine R_aload_n (pc' := 29) dX4_isEither_28 rfl i3.1 rfl ?_
        have hs7 := h.1
        have h := h.2
        refine Q_getfq (J := 0) (pc' := 32) rfl dX4_isEither_29 l_RX4_9 i3 fd4_0.1 fd4_0.2.1 fd4_0.2.2.1 fd4_0.2.2.2 rfl ?_
        refine R_bipush (pc' := 34) dX4_isEither_32 (by decide) rfl ?_
        refine Q_callVV (vs := [(0, (-2))]) (st := []) (pc' := 37) dX4_isEither_34 l_RX4_87 (hou_s hs7) (by decide) rfl rfl (Nat.le_of_ble_eq_true rfl) rfl (Nat.zero_le _) (Nat.zero_le _) rfl ?_
        refine CV.mono h (fun c8 h => ?_)
        exact WP_wk (wk_e (wk_e (wk_u (wk_e (wk_e wk_n))))) h
set_option maxRecDepth 100000 in
theorem s_X4_isEither_37 {K : SK} {d : Nat} {c : ct} {Q : ct → Int → Prop} (a1 : Int) (a3 : Int) (a4 : Int) (h : CI K d mX4_isSign [(2, 3), (0, 38)] c (fun c1 r2 => (r2 = 0 → (a3 = 0 → CI K d mX4_isSign [(2, 3), (0, 124)] c1 (fun c5 r6 => (r6 = 0 → Q c5 1) ∧ (¬ (r6 = 0) → ir r6 ∧ WI K (d + 1) mX4_isEither 7 [(2, 3), (0, a1), (0, r2), (0, r6), (0, (a4 + 1))] [] c5 Q))) ∧ (¬ (a3 = 0) → ir a3 ∧ (isHou (c1 3 0)) ∧ CV K d mX2_addStep [(2, (c1 3 0)), (0, (-3))] c1 (fun c9 => CI K d mX4_isSign [(2, 3), (0, 124)] c9 (fun c11 r12 => (r12 = 0 → Q c11 1) ∧ (¬ (r12 = 0) → ir r12 ∧ WI K (d + 1) mX4_isEither 7 [(2, 3), (0, a1), (0, r2), (0, r12), (0, (a4 + 1))] [] c11 Q))))) ∧ (¬ (r2 = 0) → ir r2 ∧ WI K (d + 1) mX4_isEither 7 [(2, 3), (0, a1), (0, r2), (0, a3), (0, (a4 + 1))] [] c1 Q))) : WI K (d + 1) mX4_isEither 37 [(2, 3), (0, a1), (9, 0), (0, a3), (0, a4)] [] c Q := by
  refine R_aload_n (pc' := 38) dX4_isEither_37 rfl i3.1 rfl ?_
  refine R_bipush (pc' := 40) dX4_isEither_38 (by decide) rfl ?_
  refine Q_callVI (vs := [(0, 38)]) (st := []) (pc' := 43) dX4_isEither_40 l_RX4_41 i3 (by decide) rfl rfl (Nat.le_of_ble_eq_true rfl) rfl (Nat.zero_le _) (Nat.zero_le _) rfl ?_
  refine CI.mono h (fun c1 r2 h => ?_)
  refine R_istore_n (L' := [_, _, _, _, _]) (pc' := 44) dX4_isEither_43 (by decide) rfl rfl rfl ?_
  refine R_iload_n (pc' := 45) dX4_isEither_44 rfl rfl ?_
  by_cases hc3 : r2 = 0
  · have h := h.1 hc3
    refine R_eqS_if (tgt := 51) (pc' := 48) dX4_isEither_45 (by decide) hc3 rfl ?_
    refine R_iload_n (pc' := 52) dX4_isEither_51 rfl rfl ?_
    by_cases hc4 : a3 = 0
    · have h := h.1 hc4
      refine R_eqS_if (tgt := 64) (pc' := 55) dX4_isEither_52 (by decide) hc4 rfl ?_
      refine R_aload_n (pc' := 65) dX4_isEither_64 rfl i3.1 rfl ?_
      refine R_bipush (pc' := 67) dX4_isEither_65 (by decide) rfl ?_
      refine Q_callVI (vs := [(0, 124)]) (st := []) (pc' := 70) dX4_isEither_67 l_RX4_41 i3 (by decide) rfl rfl (Nat.le_of_ble_eq_true rfl) rfl (Nat.zero_le _) (Nat.zero_le _) rfl ?_
      refine CI.mono h (fun c5 r6 h => ?_)
      refine R_istore_n (L' := [_, _, _, _, _]) (pc' := 71) dX4_isEither_70 (by decide) rfl rfl rfl ?_
      refine R_iload_n (pc' := 72) dX4_isEither_71 rfl rfl ?_
      by_cases hc7 : r6 = 0
      · have h := h.1 hc7
        refine R_neS_if (tgt := 77) (pc' := 75) dX4_isEither_72 (by decide) hc7 rfl ?_
        refine R_iconst (pc' := 76) dX4_isEither_75 rfl ?_
        exact Q_zret dX4_isEither_76 rfl (Or.inr rfl) h
      · have h := h.2 hc7
        refine R_neD_if (tgt := 77) (pc' := 75) dX4_isEither_72 (by decide) hc7 h.1 rfl ?_
        have h := h.2
        refine R_iinc (L' := [_, _, _, _, _]) (pc' := 80) dX4_isEither_77 rfl (by decide) rfl rfl rfl ?_
        refine R_goto (tgt := 7) dX4_isEither_80 (by decide) ?_
        exact WP_wk (wk_e (wk_e (wk_e (wk_e (wk_e wk_n))))) h
    · have h := h.2 hc4
      refine R_eqD_if (tgt := 64) (pc' := 55) dX4_isEither_52 (by decide) hc4 h.1 rfl ?_
      have h := h.2
      refine R_aload_n (pc' := 56) dX4_isEither_55 rfl i3.1 rfl ?_
      have hs8 := h.1
      have h := h.2
      refine Q_getfq (J := 0) (pc' := 59) rfl dX4_isEither_56 l_RX4_9 i3 fd4_0.1 fd4_0.2.1 fd4_0.2.2.1 fd4_0.2.2.2 rfl ?_
      refine R_bipush (pc' := 61) dX4_isEither_59 (by decide) rfl ?_
      refine Q_callVV (vs := [(0, (-3))]) (st := []) (pc' := 64) dX4_isEither_61 l_RX4_87 (hou_s hs8) (by decide) rfl rfl (Nat.le_of_ble_eq_true rfl) rfl (Nat.zero_le _) (Nat.zero_le _) rfl ?_
      refine CV.mono h (fun c9 h => ?_)
      refine R_aload_n (pc' := 65) dX4_isEither_64 rfl i3.1 rfl ?_
      refine R_bipush (pc' := 67) dX4_isEither_65 (by decide) rfl ?_
      refine Q_callVI (vs := [(0, 124)]) (st := []) (pc' := 70) dX4_isEither_67 l_RX4_41 i3 (by decide) rfl rfl (Nat.le_of_ble_eq_true rfl) rfl (Nat.zero_le _) (Nat.zero_le _) rfl ?_
      refine CI.mono h (fun c11 r12 h => ?_)
      refine R_istore_n (L' := [_, _, _, _, _]) (pc' := 71) dX4_isEither_70 (by decide) rfl rfl rfl ?_
      refine R_iload_n (pc' := 72) dX4_isEither_71 rfl rfl ?_
      by_cases hc13 : r12 = 0
      · have h := h.1 hc13
        refine R_neS_if (tgt := 77) (pc' := 75) dX4_isEither_72 (by decide) hc13 rfl ?_
        refine R_iconst (pc' := 76) dX4_isEither_75 rfl ?_
        exact Q_zret dX4_isEither_76 rfl (Or.inr rfl) h
      · have h := h.2 hc13
        refine R_neD_if (tgt := 77) (pc' := 75) dX4_isEither_72 (by decide) hc13 h.1 rfl ?_
        have h := h.2
        refine R_iinc (L' := [_, _, _, _, _]) (pc' := 80) dX4_isEither_77 rfl (by decide) rfl rfl rfl ?_
        refine R_goto (tgt := 7) dX4_isEither_80 (by decide) ?_
        exact WP_wk (wk_e (wk_e (wk_e (wk_e (wk_e wk_n))))) h
  · have h := h.2 hc3
    refine R_eqD_if (tgt := 51) (pc' := 48) dX4_isEither_45 (by decide) hc3 h.1 rfl ?_
    have h := h.2
    refine R_goto (tgt := 77) dX4_isEither_48 (by decide) ?_
    refine R_iinc (L' := [_, _, _, _, _]) (pc' := 80) dX4_isEither_77 rfl (by decide) rfl rfl rfl ?_
    refine R_goto (tgt := 7) dX4_isEither_80 (by decide) ?_
    exact WP_wk (wk_e (wk_e (wk_e (wk_e (wk_e wk_n))))) h
theorem e_X4_isEither {K : SK} {d : Nat} {c : ct} {Q : ct → Int → Prop} (a1 : Int) (h : WI K (d + 1) mX4_isEither 0 [(2, 3), (0, a1), (9, 0), (9, 0), (9, 0)] [] c Q) : CI K (d + 1) mX4_isEither [(2, 3), (0, a1)] c Q := CM_ofS (by decide) (Nat.le_of_ble_eq_true rfl) _ rfl h
set_option maxRecDepth 100000 in
theorem s_X4_isFactor_0 {K : SK} {d : Nat} {c : ct} {Q : ct → Int → Prop} (a1 : Int) (h : CI K d mX4_next [(2, 3)] c (fun c1 r2 => (r2 = 40 → WI K (d + 1) mX4_isFactor 17 [(2, 3), (0, a1), (0, r2), (9, 0), (9, 0)] [] c1 Q) ∧ (¬ (r2 = 40) → ir r2 ∧ (r2 = 33 → WI K (d + 1) mX4_isFactor 17 [(2, 3), (0, a1), (0, r2), (9, 0), (9, 0)] [] c1 Q) ∧ (¬ (r2 = 33) → ir r2 ∧ CI K d mX4_factOf [(0, r2)] c1 (fun c5 r6 => (ir r6) ∧ (0 ≤ r6 → ∀ c9 : ct, c9 = up2 c5 3 3 ((c5 3 3) + 1) → CI K d mX4_next [(2, 3)] c9 (fun c10 r11 => CI K d mX4_compareOf [(0, r11)] c10 (fun c12 r13 => (ir r13) ∧ (0 ≤ r13 → ∀ c16 : ct, c16 = up2 c12 3 3 ((c12 3 3) + 1) → CI K d mX4_isNumber [(2, 3)] c16 (fun c17 r18 => (r18 = 0 → Q c17 0) ∧ (¬ (r18 = 0) → ir r18 ∧ (isHou (c17 3 0)) ∧ CV K d mX2_addTest [(2, (c17 3 0)), (0, r6), (0, r13), (0, (c17 3 4))] c17 (fun c21 => Q c21 1)))) ∧ (¬ (0 ≤ r13) → Q c12 0)))) ∧ (¬ (0 ≤ r6) → Q c5 0)))))) : WI K (d + 1) mX4_isFactor 0 [(2, 3), (0, a1), (9, 0), (9, 0), (9, 0)] [] c Q := by
  refine R_aload_n (pc' := 1) dX4_isFactor_0 rfl i3.1 rfl ?_
  refine Q_callVI (vs := []) (st := []) (pc' := 4) dX4_isFactor_1 l_RX4_45 i3 (by decide) rfl rfl (Nat.le_of_ble_eq_true rfl) rfl (Nat.zero_le _) (Nat.zero_le _) rfl ?_
  refine CI.mono h (fun c1 r2 h => ?_)
  refine R_istore_n (L' := [_, _, _, _, _]) (pc' := 5) dX4_isFactor_4 (by decide) rfl rfl rfl ?_
  refine R_iload_n (pc' := 6) dX4_isFactor_5 rfl rfl ?_
  refine R_bipush (pc' := 8) dX4_isFactor_6 (by decide) rfl ?_
  by_cases hc3 : r2 = 40
  · have h := h.1 hc3
    refine R_eqS_ic (tgt := 17) (pc' := 11) dX4_isFactor_8 (by decide) hc3 rfl ?_
    exact WP_wk (wk_e (wk_e (wk_e (wk_u (wk_u wk_n))))) h
  · have h := h.2 hc3
    refine R_eqD_ic (tgt := 17) (pc' := 11) dX4_isFactor_8 (by decide) hc3 ⟨h.1, ir_l (by decide) (by decide)⟩ rfl ?_
    have h := h.2
    refine R_iload_n (pc' := 12) dX4_isFactor_11 rfl rfl ?_
    refine R_bipush (pc' := 14) dX4_isFactor_12 (by decide) rfl ?_
    by_cases hc4 : r2 = 33
    · have h := h.1 hc4
      refine R_neS_ic (tgt := 39) (pc' := 17) dX4_isFactor_14 (by decide) hc4 rfl ?_
      exact WP_wk (wk_e (wk_e (wk_e (wk_u (wk_u wk_n))))) h
    · have h := h.2 hc4
      refine R_neD_ic (tgt := 39) (pc' := 17) dX4_isFactor_14 (by decide) hc4 ⟨h.1, ir_l (by decide) (by decide)⟩ rfl ?_
      have h := h.2
      refine R_iload_n (pc' := 40) dX4_isFactor_39 rfl rfl ?_
      refine Q_callSI (vs := [(0, r2)]) (st := []) (pc' := 43) dX4_isFactor_40 l_RX4_94 rfl (Nat.le_of_ble_eq_true rfl) rfl (Nat.zero_le _) (Nat.zero_le _) rfl ?_
      refine CI.mono h (fun c5 r6 h => ?_)
      refine R_istore_n (L' := [_, _, _, _, _]) (pc' := 44) dX4_isFactor_43 (by decide) rfl rfl rfl ?_
      refine R_iload_n (pc' := 45) dX4_isFactor_44 rfl rfl ?_
      have hs8 := h.1
      have h := h.2
      refine R_if_ge (tgt := 50) (pc' := 48) dX4_isFactor_45 (by decide) hs8  rfl (fun hc7 => ?_) (fun hc7 => ?_)
      · have h := h.1 hc7
        refine R_aload_n (pc' := 51) dX4_isFactor_50 rfl i3.1 rfl ?_
        refine R_dup (pc' := 52) dX4_isFactor_51 (by simp) rfl ?_
        refine Q_getfi (J := 3) (pc' := 55) rfl dX4_isFactor_52 l_RX4_29 i3 fd4_3.1 fd4_3.2.1 fd4_3.2.2.1 rfl ?_
        refine R_iconst (pc' := 56) dX4_isFactor_55 rfl ?_
        refine R_iadd (pc' := 57) dX4_isFactor_56 rfl ?_
        refine Q_putfi (J := 3) (pc' := 60) rfl dX4_isFactor_57 l_RX4_29 i3 fd4_3.1 fd4_3.2.1 fd4_3.2.2.2.1 fd4_3.2.2.2.2 rfl (fun c9 hc9 => ?_)
        have h := h c9 hc9
        refine R_aload_n (pc' := 61) dX4_isFactor_60 rfl i3.1 rfl ?_
        refine Q_callVI (vs := []) (st := []) (pc' := 64) dX4_isFactor_61 l_RX4_45 i3 (by decide) rfl rfl (Nat.le_of_ble_eq_true rfl) rfl (Nat.zero_le _) (Nat.zero_le _) rfl ?_
        refine CI.mono h (fun c10 r11 h => ?_)
        refine Q_callSI (vs := [(0, r11)]) (st := []) (pc' := 67) dX4_isFactor_64 l_RX4_98 rfl (Nat.le_of_ble_eq_true rfl) rfl (Nat.zero_le _) (Nat.zero_le _) rfl ?_
        refine CI.mono h (fun c12 r13 h => ?_)
        refine R_istore (L' := [_, _, _, _, _]) (pc' := 69) dX4_isFactor_67 (by decide) rfl rfl rfl ?_
        refine R_iload (pc' := 71) dX4_isFactor_69 rfl rfl ?_
        have hs15 := h.1
        have h := h.2
        refine R_if_ge (tgt := 76) (pc' := 74) dX4_isFactor_71 (by decide) hs15  rfl (fun hc14 => ?_) (fun hc14 => ?_)
        · have h := h.1 hc14
          refine R_aload_n (pc' := 77) dX4_isFactor_76 rfl i3.1 rfl ?_
          refine R_dup (pc' := 78) dX4_isFactor_77 (by simp) rfl ?_
          refine Q_getfi (J := 3) (pc' := 81) rfl dX4_isFactor_78 l_RX4_29 i3 fd4_3.1 fd4_3.2.1 fd4_3.2.2.1 rfl ?_
          refine R_iconst (pc' := 82) dX4_isFactor_81 rfl ?_
          refine R_iadd (pc' := 83) dX4_isFactor_82 rfl ?_
          refine Q_putfi (J := 3) (pc' := 86) rfl dX4_isFactor_83 l_RX4_29 i3 fd4_3.1 fd4_3.2.1 fd4_3.2.2.2.1 fd4_3.2.2.2.2 rfl (fun c16 hc16 => ?_)
          have h := h c16 hc16
          refine R_aload_n (pc' := 87) dX4_isFactor_86 rfl i3.1 rfl ?_
          refine Q_callVI (vs := []) (st := []) (pc' := 90) dX4_isFactor_87 l_RX4_57 i3 (by decide) rfl rfl (Nat.le_of_ble_eq_true rfl) rfl (Nat.zero_le _) (Nat.zero_le _) rfl ?_
          refine CI.mono h (fun c17 r18 h => ?_)
          by_cases hc19 : r18 = 0
          · have h := h.1 hc19
            refine R_neS_if (tgt := 95) (pc' := 93) dX4_isFactor_90 (by decide) hc19 rfl ?_
            refine R_iconst (pc' := 94) dX4_isFactor_93 rfl ?_
            exact Q_zret dX4_isFactor_94 rfl (Or.inl rfl) h
          · have h := h.2 hc19
            refine R_neD_if (tgt := 95) (pc' := 93) dX4_isFactor_90 (by decide) hc19 h.1 rfl ?_
            have h := h.2
            refine R_aload_n (pc' := 96) dX4_isFactor_95 rfl i3.1 rfl ?_
            have hs20 := h.1
            have h := h.2
            refine Q_getfq (J := 0) (pc' := 99) rfl dX4_isFactor_96 l_RX4_9 i3 fd4_0.1 fd4_0.2.1 fd4_0.2.2.1 fd4_0.2.2.2 rfl ?_
            refine R_iload_n (pc' := 100) dX4_isFactor_99 rfl rfl ?_
            refine R_iload (pc' := 102) dX4_isFactor_100 rfl rfl ?_
            refine R_aload_n (pc' := 103) dX4_isFactor_102 rfl i3.1 rfl ?_
            refine Q_getfi (J := 4) (pc' := 106) rfl dX4_isFactor_103 l_RX4_60 i3 fd4_4.1 fd4_4.2.1 fd4_4.2.2.1 rfl ?_
            refine Q_callVV (vs := [(0, r6), (0, r13), (0, (c17 3 4))]) (st := []) (pc' := 109) dX4_isFactor_106 l_RX4_101 (hou_s hs20) (by decide) rfl rfl (Nat.le_of_ble_eq_true rfl) rfl (Nat.zero_le _) (Nat.zero_le _) rfl ?_
            refine CV.mono h (fun c21 h => ?_)
            refine R_iconst (pc' := 110) dX4_isFactor_109 rfl ?_
            exact Q_zret dX4_isFactor_110 rfl (Or.inr rfl) h
        · have h := h.2 hc14
          refine R_iconst (pc' := 75) dX4_isFactor_74 rfl ?_
          exact Q_zret dX4_isFactor_75 rfl (Or.inl rfl) h
      · have h := h.2 hc7
        refine R_iconst (pc' := 49) dX4_isFactor_48 rfl ?_
        exact Q_zret dX4_isFactor_49 rfl (Or.inl rfl) h
set_option maxRecDepth 100000 in
theorem s_X4_isFactor_17 {K : SK} {d : Nat} {c : ct} {Q : ct → Int → Prop} (a1 : Int) (a2 : Int) (h : (ir a1) ∧ (4 ≤ a1 → Q c 0) ∧ (¬ (4 ≤ a1) → CI K d mX4_isNest [(2, 3), (0, a2), (0, (a1 + 1))] c (fun c3 r4 => (r4 = 0 → Q c3 0) ∧ (¬ (r4 = 0) → ir r4 ∧ Q c3 1)))) : WI K (d + 1) mX4_isFactor 17 [(2, 3), (0, a1), (0, a2), (9, 0), (9, 0)] [] c Q := by
  refine R_iload_n (pc' := 18) dX4_isFactor_17 rfl rfl ?_
  refine R_iconst (pc' := 19) dX4_isFactor_18 rfl ?_
  have hs2 := h.1
  have h := h.2
  refine R_icmp_ge (tgt := 37) (pc' := 22) dX4_isFactor_19 (by decide) hs2 (ir_l (by decide) (by decide)) rfl (fun hc1 => ?_) (fun hc1 => ?_)
  · have h := h.1 hc1
    refine R_iconst (pc' := 38) dX4_isFactor_37 rfl ?_
    exact Q_zret dX4_isFactor_38 rfl (Or.inl rfl) h
  · have h := h.2 hc1
    refine R_aload_n (pc' := 23) dX4_isFactor_22 rfl i3.1 rfl ?_
    refine R_iload_n (pc' := 24) dX4_isFactor_23 rfl rfl ?_
    refine R_iload_n (pc' := 25) dX4_isFactor_24 rfl rfl ?_
    refine R_iconst (pc' := 26) dX4_isFactor_25 rfl ?_
    refine R_iadd (pc' := 27) dX4_isFactor_26 rfl ?_
    refine Q_callVI (vs := [(0, a2), (0, (a1 + 1))]) (st := []) (pc' := 30) dX4_isFactor_27 l_RX4_90 i3 (by decide) rfl rfl (Nat.le_of_ble_eq_true rfl) rfl (Nat.zero_le _) (Nat.zero_le _) rfl ?_
    refine CI.mono h (fun c3 r4 h => ?_)
    by_cases hc5 : r4 = 0
    · have h := h.1 hc5
      refine R_eqS_if (tgt := 37) (pc' := 33) dX4_isFactor_30 (by decide) hc5 rfl ?_
      refine R_iconst (pc' := 38) dX4_isFactor_37 rfl ?_
      exact Q_zret dX4_isFactor_38 rfl (Or.inl rfl) h
    · have h := h.2 hc5
      refine R_eqD_if (tgt := 37) (pc' := 33) dX4_isFactor_30 (by decide) hc5 h.1 rfl ?_
      have h := h.2
      refine R_iconst (pc' := 34) dX4_isFactor_33 rfl ?_
      refine R_goto (tgt := 38) dX4_isFactor_34 (by decide) ?_
      exact Q_zret dX4_isFactor_38 rfl (Or.inr rfl) h
theorem e_X4_isFactor {K : SK} {d : Nat} {c : ct} {Q : ct → Int → Prop} (a1 : Int) (h : WI K (d + 1) mX4_isFactor 0 [(2, 3), (0, a1), (9, 0), (9, 0), (9, 0)] [] c Q) : CI K (d + 1) mX4_isFactor [(2, 3), (0, a1)] c Q := CM_ofS (by decide) (Nat.le_of_ble_eq_true rfl) _ rfl h
set_option maxRecDepth 100000 in
theorem s_X4_isNest_0 {K : SK} {d : Nat} {c : ct} {Q : ct → Int → Prop} (a1 : Int) (a2 : Int) (h : ∀ c1 : ct, c1 = up2 c 3 3 ((c 3 3) + 1) → (a1 = 40 → CI K d mX4_isEither [(2, 3), (0, a2)] c1 (fun c3 r4 => (r4 = 0 → Q c3 0) ∧ (¬ (r4 = 0) → ir r4 ∧ CI K d mX4_isSign [(2, 3), (0, 41)] c3 (fun c6 r7 => (r7 = 0 → Q c6 0) ∧ (¬ (r7 = 0) → ir r7 ∧ Q c6 1))))) ∧ (¬ (a1 = 40) → ir a1 ∧ CI K d mX4_isFactor [(2, 3), (0, a2)] c1 (fun c9 r10 => (r10 = 0 → Q c9 0) ∧ (¬ (r10 = 0) → ir r10 ∧ (isHou (c9 3 0)) ∧ CV K d mX2_addStep [(2, (c9 3 0)), (0, (-1))] c9 (fun c13 => Q c13 1))))) : WI K (d + 1) mX4_isNest 0 [(2, 3), (0, a1), (0, a2)] [] c Q := by
  refine R_aload_n (pc' := 1) dX4_isNest_0 rfl i3.1 rfl ?_
  refine R_dup (pc' := 2) dX4_isNest_1 (by simp) rfl ?_
  refine Q_getfi (J := 3) (pc' := 5) rfl dX4_isNest_2 l_RX4_29 i3 fd4_3.1 fd4_3.2.1 fd4_3.2.2.1 rfl ?_
  refine R_iconst (pc' := 6) dX4_isNest_5 rfl ?_
  refine R_iadd (pc' := 7) dX4_isNest_6 rfl ?_
  refine Q_putfi (J := 3) (pc' := 10) rfl dX4_isNest_7 l_RX4_29 i3 fd4_3.1 fd4_3.2.1 fd4_3.2.2.2.1 fd4_3.2.2.2.2 rfl (fun c1 hc1 => ?_)
  have h := h c1 hc1
  refine R_iload_n (pc' := 11) dX4_isNest_10 rfl rfl ?_
  refine R_bipush (pc' := 13) dX4_isNest_11 (by decide) rfl ?_
  by_cases hc2 : a1 = 40
  · have h := h.1 hc2
    refine R_neS_ic (tgt := 39) (pc' := 16) dX4_isNest_13 (by decide) hc2 rfl ?_
    refine R_aload_n (pc' := 17) dX4_isNest_16 rfl i3.1 rfl ?_
    refine R_iload_n (pc' := 18) dX4_isNest_17 rfl rfl ?_
    refine Q_callVI (vs := [(0, a2)]) (st := []) (pc' := 21) dX4_isNest_18 l_RX4_69 i3 (by decide) rfl rfl (Nat.le_of_ble_eq_true rfl) rfl (Nat.zero_le _) (Nat.zero_le _) rfl ?_
    refine CI.mono h (fun c3 r4 h => ?_)
    by_cases hc5 : r4 = 0
    · have h := h.1 hc5
      refine R_eqS_if (tgt := 37) (pc' := 24) dX4_isNest_21 (by decide) hc5 rfl ?_
      refine R_iconst (pc' := 38) dX4_isNest_37 rfl ?_
      exact Q_zret dX4_isNest_38 rfl (Or.inl rfl) h
    · have h := h.2 hc5
      refine R_eqD_if (tgt := 37) (pc' := 24) dX4_isNest_21 (by decide) hc5 h.1 rfl ?_
      have h := h.2
      refine R_aload_n (pc' := 25) dX4_isNest_24 rfl i3.1 rfl ?_
      refine R_bipush (pc' := 27) dX4_isNest_25 (by decide) rfl ?_
      refine Q_callVI (vs := [(0, 41)]) (st := []) (pc' := 30) dX4_isNest_27 l_RX4_41 i3 (by decide) rfl rfl (Nat.le_of_ble_eq_true rfl) rfl (Nat.zero_le _) (Nat.zero_le _) rfl ?_
      refine CI.mono h (fun c6 r7 h => ?_)
      by_cases hc8 : r7 = 0
      · have h := h.1 hc8
        refine R_eqS_if (tgt := 37) (pc' := 33) dX4_isNest_30 (by decide) hc8 rfl ?_
        refine R_iconst (pc' := 38) dX4_isNest_37 rfl ?_
        exact Q_zret dX4_isNest_38 rfl (Or.inl rfl) h
      · have h := h.2 hc8
        refine R_eqD_if (tgt := 37) (pc' := 33) dX4_isNest_30 (by decide) hc8 h.1 rfl ?_
        have h := h.2
        refine R_iconst (pc' := 34) dX4_isNest_33 rfl ?_
        refine R_goto (tgt := 38) dX4_isNest_34 (by decide) ?_
        exact Q_zret dX4_isNest_38 rfl (Or.inr rfl) h
  · have h := h.2 hc2
    refine R_neD_ic (tgt := 39) (pc' := 16) dX4_isNest_13 (by decide) hc2 ⟨h.1, ir_l (by decide) (by decide)⟩ rfl ?_
    have h := h.2
    refine R_aload_n (pc' := 40) dX4_isNest_39 rfl i3.1 rfl ?_
    refine R_iload_n (pc' := 41) dX4_isNest_40 rfl rfl ?_
    refine Q_callVI (vs := [(0, a2)]) (st := []) (pc' := 44) dX4_isNest_41 l_RX4_84 i3 (by decide) rfl rfl (Nat.le_of_ble_eq_true rfl) rfl (Nat.zero_le _) (Nat.zero_le _) rfl ?_
    refine CI.mono h (fun c9 r10 h => ?_)
    by_cases hc11 : r10 = 0
    · have h := h.1 hc11
      refine R_neS_if (tgt := 49) (pc' := 47) dX4_isNest_44 (by decide) hc11 rfl ?_
      refine R_iconst (pc' := 48) dX4_isNest_47 rfl ?_
      exact Q_zret dX4_isNest_48 rfl (Or.inl rfl) h
    · have h := h.2 hc11
      refine R_neD_if (tgt := 49) (pc' := 47) dX4_isNest_44 (by decide) hc11 h.1 rfl ?_
      have h := h.2
      refine R_aload_n (pc' := 50) dX4_isNest_49 rfl i3.1 rfl ?_
      have hs12 := h.1
      have h := h.2
      refine Q_getfq (J := 0) (pc' := 53) rfl dX4_isNest_50 l_RX4_9 i3 fd4_0.1 fd4_0.2.1 fd4_0.2.2.1 fd4_0.2.2.2 rfl ?_
      refine R_iconst (pc' := 54) dX4_isNest_53 rfl ?_
      refine Q_callVV (vs := [(0, (-1))]) (st := []) (pc' := 57) dX4_isNest_54 l_RX4_87 (hou_s hs12) (by decide) rfl rfl (Nat.le_of_ble_eq_true rfl) rfl (Nat.zero_le _) (Nat.zero_le _) rfl ?_
      refine CV.mono h (fun c13 h => ?_)
      refine R_iconst (pc' := 58) dX4_isNest_57 rfl ?_
      exact Q_zret dX4_isNest_58 rfl (Or.inr rfl) h
theorem e_X4_isNest {K : SK} {d : Nat} {c : ct} {Q : ct → Int → Prop} (a1 : Int) (a2 : Int) (h : WI K (d + 1) mX4_isNest 0 [(2, 3), (0, a1), (0, a2)] [] c Q) : CI K (d + 1) mX4_isNest [(2, 3), (0, a1), (0, a2)] c Q := CM_ofS (by decide) (Nat.le_of_ble_eq_true rfl) _ rfl h
set_option maxRecDepth 100000 in
theorem s_X4_factOf_0 {K : SK} {d : Nat} {c : ct} {Q : ct → Int → Prop} (a0 : Int) (h : ir a0 ∧ (a0 = 106 → Q c 3) ∧ (a0 = 107 → Q c 2) ∧ (a0 = 108 → Q c (-1)) ∧ (a0 = 109 → Q c (-1)) ∧ (a0 = 110 → Q c (-1)) ∧ (a0 = 111 → Q c (-1)) ∧ (a0 = 112 → Q c 0) ∧ (a0 = 113 → Q c 1) ∧ (a0 = 114 → Q c (-1)) ∧ (a0 = 115 → Q c (-1)) ∧ (a0 = 116 → Q c (-1)) ∧ (a0 = 117 → Q c (-1)) ∧ (a0 = 118 → Q c 4) ∧ (a0 = 119 → Q c (-1)) ∧ (a0 = 120 → Q c (-1)) ∧ (a0 = 121 → Q c 5) ∧ ((a0 < 106 ∨ 121 < a0) → Q c (-1))) : WI K (d + 1) mX4_factOf 0 [(0, a0)] [] c Q := by
  refine R_iload_n (pc' := 1) dX4_factOf_0 rfl rfl ?_
  have hs0 := h.1
  have h := h.2
  rcases (show a0 = 106 ∨ a0 = 107 ∨ a0 = 108 ∨ a0 = 109 ∨ a0 = 110 ∨ a0 = 111 ∨ a0 = 112 ∨ a0 = 113 ∨ a0 = 114 ∨ a0 = 115 ∨ a0 = 116 ∨ a0 = 117 ∨ a0 = 118 ∨ a0 = 119 ∨ a0 = 120 ∨ a0 = 121 ∨ (a0 < 106 ∨ 121 < a0) by omega) with hk | hk | hk | hk | hk | hk | hk | hk | hk | hk | hk | hk | hk | hk | hk | hk | hk
  · have h := h.1 hk
    refine R_tableAt (tgt := 86) 106 hk dX4_factOf_1 (ir_l (by decide) (by decide)) (by decide) rfl (by decide) ?_
    refine R_iconst (pc' := 87) dX4_factOf_86 rfl ?_
    exact Q_iret dX4_factOf_87 rfl h
  · have h := h.2.1 hk
    refine R_tableAt (tgt := 84) 107 hk dX4_factOf_1 (ir_l (by decide) (by decide)) (by decide) rfl (by decide) ?_
    refine R_iconst (pc' := 85) dX4_factOf_84 rfl ?_
    exact Q_iret dX4_factOf_85 rfl h
  · have h := h.2.2.1 hk
    refine R_tableAt (tgt := 92) 108 hk dX4_factOf_1 (ir_l (by decide) (by decide)) (by decide) rfl (by decide) ?_
    refine R_iconst (pc' := 93) dX4_factOf_92 rfl ?_
    exact Q_iret dX4_factOf_93 rfl h
  · have h := h.2.2.2.1 hk
    refine R_tableAt (tgt := 92) 109 hk dX4_factOf_1 (ir_l (by decide) (by decide)) (by decide) rfl (by decide) ?_
    refine R_iconst (pc' := 93) dX4_factOf_92 rfl ?_
    exact Q_iret dX4_factOf_93 rfl h
  · have h := h.2.2.2.2.1 hk
    refine R_tableAt (tgt := 92) 110 hk dX4_factOf_1 (ir_l (by decide) (by decide)) (by decide) rfl (by decide) ?_
    refine R_iconst (pc' := 93) dX4_factOf_92 rfl ?_
    exact Q_iret dX4_factOf_93 rfl h
  · have h := h.2.2.2.2.2.1 hk
    refine R_tableAt (tgt := 92) 111 hk dX4_factOf_1 (ir_l (by decide) (by decide)) (by decide) rfl (by decide) ?_
    refine R_iconst (pc' := 93) dX4_factOf_92 rfl ?_
    exact Q_iret dX4_factOf_93 rfl h
  · have h := h.2.2.2.2.2.2.1 hk
    refine R_tableAt (tgt := 80) 112 hk dX4_factOf_1 (ir_l (by decide) (by decide)) (by decide) rfl (by decide) ?_
    refine R_iconst (pc' := 81) dX4_factOf_80 rfl ?_
    exact Q_iret dX4_factOf_81 rfl h
  · have h := h.2.2.2.2.2.2.2.1 hk
    refine R_tableAt (tgt := 82) 113 hk dX4_factOf_1 (ir_l (by decide) (by decide)) (by decide) rfl (by decide) ?_
    refine R_iconst (pc' := 83) dX4_factOf_82 rfl ?_
    exact Q_iret dX4_factOf_83 rfl h
  · have h := h.2.2.2.2.2.2.2.2.1 hk
    refine R_tableAt (tgt := 92) 114 hk dX4_factOf_1 (ir_l (by decide) (by decide)) (by decide) rfl (by decide) ?_
    refine R_iconst (pc' := 93) dX4_factOf_92 rfl ?_
    exact Q_iret dX4_factOf_93 rfl h
  · have h := h.2.2.2.2.2.2.2.2.2.1 hk
    refine R_tableAt (tgt := 92) 115 hk dX4_factOf_1 (ir_l (by decide) (by decide)) (by decide) rfl (by decide) ?_
    refine R_iconst (pc' := 93) dX4_factOf_92 rfl ?_
    exact Q_iret dX4_factOf_93 rfl h
  · have h := h.2.2.2.2.2.2.2.2.2.2.1 hk
    refine R_tableAt (tgt := 92) 116 hk dX4_factOf_1 (ir_l (by decide) (by decide)) (by decide) rfl (by decide) ?_
    refine R_iconst (pc' := 93) dX4_factOf_92 rfl ?_
    exact Q_iret dX4_factOf_93 rfl h
  · have h := h.2.2.2.2.2.2.2.2.2.2.2.1 hk
    refine R_tableAt (tgt := 92) 117 hk dX4_factOf_1 (ir_l (by decide) (by decide)) (by decide) rfl (by decide) ?_
    refine R_iconst (pc' := 93) dX4_factOf_92 rfl ?_
    exact Q_iret dX4_factOf_93 rfl h
  · have h := h.2.2.2.2.2.2.2.2.2.2.2.2.1 hk
    refine R_tableAt (tgt := 88) 118 hk dX4_factOf_1 (ir_l (by decide) (by decide)) (by decide) rfl (by decide) ?_
    refine R_iconst (pc' := 89) dX4_factOf_88 rfl ?_
    exact Q_iret dX4_factOf_89 rfl h
  · have h := h.2.2.2.2.2.2.2.2.2.2.2.2.2.1 hk
    refine R_tableAt (tgt := 92) 119 hk dX4_factOf_1 (ir_l (by decide) (by decide)) (by decide) rfl (by decide) ?_
    refine R_iconst (pc' := 93) dX4_factOf_92 rfl ?_
    exact Q_iret dX4_factOf_93 rfl h
  · have h := h.2.2.2.2.2.2.2.2.2.2.2.2.2.2.1 hk
    refine R_tableAt (tgt := 92) 120 hk dX4_factOf_1 (ir_l (by decide) (by decide)) (by decide) rfl (by decide) ?_
    refine R_iconst (pc' := 93) dX4_factOf_92 rfl ?_
    exact Q_iret dX4_factOf_93 rfl h
  · have h := h.2.2.2.2.2.2.2.2.2.2.2.2.2.2.2.1 hk
    refine R_tableAt (tgt := 90) 121 hk dX4_factOf_1 (ir_l (by decide) (by decide)) (by decide) rfl (by decide) ?_
    refine R_iconst (pc' := 91) dX4_factOf_90 rfl ?_
    exact Q_iret dX4_factOf_91 rfl h
  · have h := h.2.2.2.2.2.2.2.2.2.2.2.2.2.2.2.2 hk
    refine R_tableOut (tgt := 92) dX4_factOf_1 hs0 hk (by decide) ?_
    refine R_iconst (pc' := 93) dX4_factOf_92 rfl ?_
    exact Q_iret dX4_factOf_93 rfl h
theorem e_X4_factOf {K : SK} {d : Nat} {c : ct} {Q : ct → Int → Prop} (a0 : Int) (h : WI K (d + 1) mX4_factOf 0 [(0, a0)] [] c Q) : CI K (d + 1) mX4_factOf [(0, a0)] c Q := CM_ofS (by decide) (Nat.le_of_ble_eq_true rfl) _ rfl h
set_option maxRecDepth 100000 in
theorem s_X4_compareOf_0 {K : SK} {d : Nat} {c : ct} {Q : ct → Int → Prop} (a0 : Int) (h : ir a0 ∧ (a0 = 60 → Q c 0) ∧ (a0 = 61 → Q c 1) ∧ (a0 = 62 → Q c 2) ∧ ((a0 < 60 ∨ 62 < a0) → Q c (-1))) : WI K (d + 1) mX4_compareOf 0 [(0, a0)] [] c Q := by
  refine R_iload_n (pc' := 1) dX4_compareOf_0 rfl rfl ?_
  have hs0 := h.1
  have h := h.2
  rcases (show a0 = 60 ∨ a0 = 61 ∨ a0 = 62 ∨ (a0 < 60 ∨ 62 < a0) by omega) with hk | hk | hk | hk
  · have h := h.1 hk
    refine R_tableAt (tgt := 28) 60 hk dX4_compareOf_1 (ir_l (by decide) (by decide)) (by decide) rfl (by decide) ?_
    refine R_iconst (pc' := 29) dX4_compareOf_28 rfl ?_
    exact Q_iret dX4_compareOf_29 rfl h
  · have h := h.2.1 hk
    refine R_tableAt (tgt := 30) 61 hk dX4_compareOf_1 (ir_l (by decide) (by decide)) (by decide) rfl (by decide) ?_
    refine R_iconst (pc' := 31) dX4_compareOf_30 rfl ?_
    exact Q_iret dX4_compareOf_31 rfl h
  · have h := h.2.2.1 hk
    refine R_tableAt (tgt := 32) 62 hk dX4_compareOf_1 (ir_l (by decide) (by decide)) (by decide) rfl (by decide) ?_
    refine R_iconst (pc' := 33) dX4_compareOf_32 rfl ?_
    exact Q_iret dX4_compareOf_33 rfl h
  · have h := h.2.2.2 hk
    refine R_tableOut (tgt := 34) dX4_compareOf_1 hs0 hk (by decide) ?_
    refine R_iconst (pc' := 35) dX4_compareOf_34 rfl ?_
    exact Q_iret dX4_compareOf_35 rfl h
theorem e_X4_compareOf {K : SK} {d : Nat} {c : ct} {Q : ct → Int → Prop} (a0 : Int) (h : WI K (d + 1) mX4_compareOf 0 [(0, a0)] [] c Q) : CI K (d + 1) mX4_compareOf [(0, a0)] c Q := CM_ofS (by decide) (Nat.le_of_ble_eq_true rfl) _ rfl h
set_option maxRecDepth 100000 in
theorem s_X4_isNumber_0 {K : SK} {d : Nat} {c : ct} {Q : ct → Int → Prop}  (h : CI K d mX4_next [(2, 3)] c (fun c1 r2 => CI K d mX8_isDigit [(0, (r2 - 48))] c1 (fun c3 r4 => (r4 = 0 → Q c3 0) ∧ (¬ (r4 = 0) → ir r4 ∧ ∀ c6 : ct, c6 = up2 c3 3 3 ((c3 3 3) + 1) → CI K d mX4_next [(2, 3)] c6 (fun c7 r8 => CI K d mX8_isDigit [(0, (r8 - 48))] c7 (fun c9 r10 => (r10 = 0 → ∀ c12 : ct, c12 = up2 c9 3 4 (r2 - 48) → Q c12 1) ∧ (¬ (r10 = 0) → ir r10 ∧ ∀ c13 : ct, c13 = up2 c9 3 3 ((c9 3 3) + 1) → ∀ c14 : ct, c14 = up2 c13 3 4 ((10 * (r2 - 48)) + (r8 - 48)) → Q c14 1))))))) : WI K (d + 1) mX4_isNumber 0 [(2, 3), (9, 0), (9, 0)] [] c Q := by
  refine R_aload_n (pc' := 1) dX4_isNumber_0 rfl i3.1 rfl ?_
  refine Q_callVI (vs := []) (st := []) (pc' := 4) dX4_isNumber_1 l_RX4_45 i3 (by decide) rfl rfl (Nat.le_of_ble_eq_true rfl) rfl (Nat.zero_le _) (Nat.zero_le _) rfl ?_
  refine CI.mono h (fun c1 r2 h => ?_)
  refine R_bipush (pc' := 6) dX4_isNumber_4 (by decide) rfl ?_
  refine R_isub (pc' := 7) dX4_isNumber_6 rfl ?_
  refine R_istore_n (L' := [_, _, _]) (pc' := 8) dX4_isNumber_7 (by decide) rfl rfl rfl ?_
  refine R_iload_n (pc' := 9) dX4_isNumber_8 rfl rfl ?_
  refine Q_callSNI (vs := [(0, (r2 - 48))]) (st := []) (pc' := 12) dX4_isNumber_9 l_RX4_105 rfl (Nat.le_of_ble_eq_true rfl) rfl (Nat.zero_le _) (Nat.zero_le _) rfl ?_
  refine CI.mono h (fun c3 r4 h => ?_)
  by_cases hc5 : r4 = 0
  · have h := h.1 hc5
    refine R_neS_if (tgt := 17) (pc' := 15) dX4_isNumber_12 (by decide) hc5 rfl ?_
    refine R_iconst (pc' := 16) dX4_isNumber_15 rfl ?_
    exact Q_zret dX4_isNumber_16 rfl (Or.inl rfl) h
  · have h := h.2 hc5
    refine R_neD_if (tgt := 17) (pc' := 15) dX4_isNumber_12 (by decide) hc5 h.1 rfl ?_
    have h := h.2
    refine R_aload_n (pc' := 18) dX4_isNumber_17 rfl i3.1 rfl ?_
    refine R_dup (pc' := 19) dX4_isNumber_18 (by simp) rfl ?_
    refine Q_getfi (J := 3) (pc' := 22) rfl dX4_isNumber_19 l_RX4_29 i3 fd4_3.1 fd4_3.2.1 fd4_3.2.2.1 rfl ?_
    refine R_iconst (pc' := 23) dX4_isNumber_22 rfl ?_
    refine R_iadd (pc' := 24) dX4_isNumber_23 rfl ?_
    refine Q_putfi (J := 3) (pc' := 27) rfl dX4_isNumber_24 l_RX4_29 i3 fd4_3.1 fd4_3.2.1 fd4_3.2.2.2.1 fd4_3.2.2.2.2 rfl (fun c6 hc6 => ?_)
    have h := h c6 hc6
    refine R_aload_n (pc' := 28) dX4_isNumber_27 rfl i3.1 rfl ?_
    refine Q_callVI (vs := []) (st := []) (pc' := 31) dX4_isNumber_28 l_RX4_45 i3 (by decide) rfl rfl (Nat.le_of_ble_eq_true rfl) rfl (Nat.zero_le _) (Nat.zero_le _) rfl ?_
    refine CI.mono h (fun c7 r8 h => ?_)
    refine R_bipush (pc' := 33) dX4_isNumber_31 (by decide) rfl ?_
    refine R_isub (pc' := 34) dX4_isNumber_33 rfl ?_
    refine R_istore_n (L' := [_, _, _]) (pc' := 35) dX4_isNumber_34 (by decide) rfl rfl rfl ?_
    refine R_iload_n (pc' := 36) dX4_isNumber_35 rfl rfl ?_
    refine Q_callSNI (vs := [(0, (r8 - 48))]) (st := []) (pc' := 39) dX4_isNumber_36 l_RX4_105 rfl (Nat.le_of_ble_eq_true rfl) rfl (Nat.zero_le _) (Nat.zero_le _) rfl ?_
    refine CI.mono h (fun c9 r10 h => ?_)
    by_cases hc11 : r10 = 0
    · have h := h.1 hc11
      refine R_neS_if (tgt := 49) (pc' := 42) dX4_isNumber_39 (by decide) hc11 rfl ?_
      refine R_aload_n (pc' := 43) dX4_isNumber_42 rfl i3.1 rfl ?_
      refine R_iload_n (pc' := 44) dX4_isNumber_43 rfl rfl ?_
      refine Q_putfi (J := 4) (pc' := 47) rfl dX4_isNumber_44 l_RX4_60 i3 fd4_4.1 fd4_4.2.1 fd4_4.2.2.2.1 fd4_4.2.2.2.2 rfl (fun c12 hc12 => ?_)
      have h := h c12 hc12
      refine R_iconst (pc' := 48) dX4_isNumber_47 rfl ?_
      exact Q_zret dX4_isNumber_48 rfl (Or.inr rfl) h
    · have h := h.2 hc11
      refine R_neD_if (tgt := 49) (pc' := 42) dX4_isNumber_39 (by decide) hc11 h.1 rfl ?_
      have h := h.2
      refine R_aload_n (pc' := 50) dX4_isNumber_49 rfl i3.1 rfl ?_
      refine R_dup (pc' := 51) dX4_isNumber_50 (by simp) rfl ?_
      refine Q_getfi (J := 3) (pc' := 54) rfl dX4_isNumber_51 l_RX4_29 i3 fd4_3.1 fd4_3.2.1 fd4_3.2.2.1 rfl ?_
      refine R_iconst (pc' := 55) dX4_isNumber_54 rfl ?_
      refine R_iadd (pc' := 56) dX4_isNumber_55 rfl ?_
      refine Q_putfi (J := 3) (pc' := 59) rfl dX4_isNumber_56 l_RX4_29 i3 fd4_3.1 fd4_3.2.1 fd4_3.2.2.2.1 fd4_3.2.2.2.2 rfl (fun c13 hc13 => ?_)
      have h := h c13 hc13
      refine R_aload_n (pc' := 60) dX4_isNumber_59 rfl i3.1 rfl ?_
      refine R_bipush (pc' := 62) dX4_isNumber_60 (by decide) rfl ?_
      refine R_iload_n (pc' := 63) dX4_isNumber_62 rfl rfl ?_
      refine R_imul (pc' := 64) dX4_isNumber_63 rfl ?_
      refine R_iload_n (pc' := 65) dX4_isNumber_64 rfl rfl ?_
      refine R_iadd (pc' := 66) dX4_isNumber_65 rfl ?_
      refine Q_putfi (J := 4) (pc' := 69) rfl dX4_isNumber_66 l_RX4_60 i3 fd4_4.1 fd4_4.2.1 fd4_4.2.2.2.1 fd4_4.2.2.2.2 rfl (fun c14 hc14 => ?_)
      have h := h c14 hc14
      refine R_iconst (pc' := 70) dX4_isNumber_69 rfl ?_
      exact Q_zret dX4_isNumber_70 rfl (Or.inr rfl) h
theorem e_X4_isNumber {K : SK} {d : Nat} {c : ct} {Q : ct → Int → Prop}  (h : WI K (d + 1) mX4_isNumber 0 [(2, 3), (9, 0), (9, 0)] [] c Q) : CI K (d + 1) mX4_isNumber [(2, 3)] c Q := CM_ofS (by decide) (Nat.le_of_ble_eq_true rfl) _ rfl h
set_option maxRecDepth 100000 in
theorem s_X4_isWord_0 {K : SK} {d : Nat} {c : ct} {Q : ct → Int → Prop} (a1 : Nat) (ha1 : a1 < 4) (h : WI K (d + 1) mX4_isWord 2 [(2, 3), (3, ((6 + a1 : Nat) : Int)), (0, 0)] [] c Q) : WI K (d + 1) mX4_isWord 0 [(2, 3), (3, ((6 + a1 : Nat) : Int)), (9, 0)] [] c Q := by
  refine R_iconst (pc' := 1) dX4_isWord_0 rfl ?_
  refine R_istore_n (L' := [_, _, _]) (pc' := 2) dX4_isWord_1 (by decide) rfl rfl rfl ?_
  exact WP_wk (wk_e (wk_e (wk_e wk_n))) h
set_option maxRecDepth 100000 in
theorem s_X4_isWord_2 {K : SK} {d : Nat} {c : ct} {Q : ct → Int → Prop} (a1 : Nat) (ha1 : a1 < 4) (a2 : Int) (h : CI K d mJ0_length_8abf5 [(3, ((6 + a1 : Nat) : Int))] c (fun c1 r2 => (ir a2 ∧ ir r2) ∧ (r2 ≤ a2 → Q c1 1) ∧ (¬ (r2 ≤ a2) → CI K d mJ0_charAt_5068e [(3, ((6 + a1 : Nat) : Int)), (0, a2)] c1 (fun c5 r6 => CI K d mX4_isSign [(2, 3), (0, r6)] c5 (fun c7 r8 => (r8 = 0 → Q c7 0) ∧ (¬ (r8 = 0) → ir r8 ∧ WI K (d + 1) mX4_isWord 2 [(2, 3), (3, ((6 + a1 : Nat) : Int)), (0, (a2 + 1))] [] c7 Q)))))) : WI K (d + 1) mX4_isWord 2 [(2, 3), (3, ((6 + a1 : Nat) : Int)), (0, a2)] [] c Q := by
  refine R_iload_n (pc' := 3) dX4_isWord_2 rfl rfl ?_
  refine R_aload_n3 (pc' := 4) dX4_isWord_3 rfl rfl ?_
  refine Q_callStrI (i := a1) (vs := []) (st := [(0, a2)]) (pc' := 7) dX4_isWord_4 l_RX4_108 ha1 rfl rfl (Nat.le_of_ble_eq_true rfl) rfl (Nat.zero_le _) (Nat.zero_le _) rfl ?_
  refine CI.mono h (fun c1 r2 h => ?_)
  have hs4 := h.1
  have h := h.2
  refine R_icmp_ge (tgt := 30) (pc' := 10) dX4_isWord_7 (by decide) hs4.1 hs4.2 rfl (fun hc3 => ?_) (fun hc3 => ?_)
  · have h := h.1 hc3
    refine R_iconst (pc' := 31) dX4_isWord_30 rfl ?_
    exact Q_zret dX4_isWord_31 rfl (Or.inr rfl) h
  · have h := h.2 hc3
    refine R_aload_n (pc' := 11) dX4_isWord_10 rfl i3.1 rfl ?_
    refine R_aload_n3 (pc' := 12) dX4_isWord_11 rfl rfl ?_
    refine R_iload_n (pc' := 13) dX4_isWord_12 rfl rfl ?_
    refine Q_callStrI (i := a1) (vs := [(0, a2)]) (st := [(2, 3)]) (pc' := 16) dX4_isWord_13 l_RX4_112 ha1 rfl rfl (Nat.le_of_ble_eq_true rfl) rfl (Nat.zero_le _) (Nat.zero_le _) rfl ?_
    refine CI.mono h (fun c5 r6 h => ?_)
    refine Q_callVI (vs := [(0, r6)]) (st := []) (pc' := 19) dX4_isWord_16 l_RX4_41 i3 (by decide) rfl rfl (Nat.le_of_ble_eq_true rfl) rfl (Nat.zero_le _) (Nat.zero_le _) rfl ?_
    refine CI.mono h (fun c7 r8 h => ?_)
    by_cases hc9 : r8 = 0
    · have h := h.1 hc9
      refine R_neS_if (tgt := 24) (pc' := 22) dX4_isWord_19 (by decide) hc9 rfl ?_
      refine R_iconst (pc' := 23) dX4_isWord_22 rfl ?_
      exact Q_zret dX4_isWord_23 rfl (Or.inl rfl) h
    · have h := h.2 hc9
      refine R_neD_if (tgt := 24) (pc' := 22) dX4_isWord_19 (by decide) hc9 h.1 rfl ?_
      have h := h.2
      refine R_iinc (L' := [_, _, _]) (pc' := 27) dX4_isWord_24 rfl (by decide) rfl rfl rfl ?_
      refine R_goto (tgt := 2) dX4_isWord_27 (by decide) ?_
      exact WP_wk (wk_e (wk_e (wk_e wk_n))) h
theorem e_X4_isWord {K : SK} {d : Nat} {c : ct} {Q : ct → Int → Prop} (a1 : Nat) (ha1 : a1 < 4) (h : WI K (d + 1) mX4_isWord 0 [(2, 3), (3, ((6 + a1 : Nat) : Int)), (9, 0)] [] c Q) : CI K (d + 1) mX4_isWord [(2, 3), (3, ((6 + a1 : Nat) : Int))] c Q := CM_ofS (by decide) (Nat.le_of_ble_eq_true rfl) _ rfl h
set_option maxRecDepth 100000 in
theorem s_X4_isSign_0 {K : SK} {d : Nat} {c : ct} {Q : ct → Int → Prop} (a1 : Int) (h : CI K d mX4_next [(2, 3)] c (fun c1 r2 => (r2 = a1 → ∀ c4 : ct, c4 = up2 c1 3 3 ((c1 3 3) + 1) → Q c4 1) ∧ (¬ (r2 = a1) → (ir r2 ∧ ir a1) ∧ Q c1 0))) : WI K (d + 1) mX4_isSign 0 [(2, 3), (0, a1)] [] c Q := by
  refine R_aload_n (pc' := 1) dX4_isSign_0 rfl i3.1 rfl ?_
  refine Q_callVI (vs := []) (st := []) (pc' := 4) dX4_isSign_1 l_RX4_45 i3 (by decide) rfl rfl (Nat.le_of_ble_eq_true rfl) rfl (Nat.zero_le _) (Nat.zero_le _) rfl ?_
  refine CI.mono h (fun c1 r2 h => ?_)
  refine R_iload_n (pc' := 5) dX4_isSign_4 rfl rfl ?_
  by_cases hc3 : r2 = a1
  · have h := h.1 hc3
    refine R_eqS_ic (tgt := 10) (pc' := 8) dX4_isSign_5 (by decide) hc3 rfl ?_
    refine R_aload_n (pc' := 11) dX4_isSign_10 rfl i3.1 rfl ?_
    refine R_dup (pc' := 12) dX4_isSign_11 (by simp) rfl ?_
    refine Q_getfi (J := 3) (pc' := 15) rfl dX4_isSign_12 l_RX4_29 i3 fd4_3.1 fd4_3.2.1 fd4_3.2.2.1 rfl ?_
    refine R_iconst (pc' := 16) dX4_isSign_15 rfl ?_
    refine R_iadd (pc' := 17) dX4_isSign_16 rfl ?_
    refine Q_putfi (J := 3) (pc' := 20) rfl dX4_isSign_17 l_RX4_29 i3 fd4_3.1 fd4_3.2.1 fd4_3.2.2.2.1 fd4_3.2.2.2.2 rfl (fun c4 hc4 => ?_)
    have h := h c4 hc4
    refine R_iconst (pc' := 21) dX4_isSign_20 rfl ?_
    exact Q_zret dX4_isSign_21 rfl (Or.inr rfl) h
  · have h := h.2 hc3
    refine R_eqD_ic (tgt := 10) (pc' := 8) dX4_isSign_5 (by decide) hc3 h.1 rfl ?_
    have h := h.2
    refine R_iconst (pc' := 9) dX4_isSign_8 rfl ?_
    exact Q_zret dX4_isSign_9 rfl (Or.inl rfl) h
theorem e_X4_isSign {K : SK} {d : Nat} {c : ct} {Q : ct → Int → Prop} (a1 : Int) (h : WI K (d + 1) mX4_isSign 0 [(2, 3), (0, a1)] [] c Q) : CI K (d + 1) mX4_isSign [(2, 3), (0, a1)] c Q := CM_ofS (by decide) (Nat.le_of_ble_eq_true rfl) _ rfl h
set_option maxRecDepth 100000 in
theorem s_X4_next_0 {K : SK} {d : Nat} {c : ct} {Q : ct → Int → Prop}  (h : (ir (c 3 3)) ∧ ((c 3 3) < 0 → Q c (-1)) ∧ (¬ ((c 3 3) < 0) → (ir (c 3 3) ∧ ir (c 3 2)) ∧ ((c 3 2) ≤ (c 3 3) → Q c (-1)) ∧ (¬ ((c 3 2) ≤ (c 3 3)) → (isS (c 3 1) 12 100) ∧ ((0 ≤ (c 3 3) ∧ (c 3 3) < 100)) ∧ Q c (c (c 3 1) (c 3 3))))) : WI K (d + 1) mX4_next 0 [(2, 3)] [] c Q := by
  refine R_aload_n (pc' := 1) dX4_next_0 rfl i3.1 rfl ?_
  refine Q_getfi (J := 3) (pc' := 4) rfl dX4_next_1 l_RX4_29 i3 fd4_3.1 fd4_3.2.1 fd4_3.2.2.1 rfl ?_
  have hs2 := h.1
  have h := h.2
  refine R_if_lt (tgt := 30) (pc' := 7) dX4_next_4 (by decide) hs2  rfl (fun hc1 => ?_) (fun hc1 => ?_)
  · have h := h.1 hc1
    refine R_iconst (pc' := 31) dX4_next_30 rfl ?_
    exact Q_iret dX4_next_31 rfl h
  · have h := h.2 hc1
    refine R_aload_n (pc' := 8) dX4_next_7 rfl i3.1 rfl ?_
    refine Q_getfi (J := 3) (pc' := 11) rfl dX4_next_8 l_RX4_29 i3 fd4_3.1 fd4_3.2.1 fd4_3.2.2.1 rfl ?_
    refine R_aload_n (pc' := 12) dX4_next_11 rfl i3.1 rfl ?_
    refine Q_getfi (J := 2) (pc' := 15) rfl dX4_next_12 l_RX4_25 i3 fd4_2.1 fd4_2.2.1 fd4_2.2.2.1 rfl ?_
    have hs4 := h.1
    have h := h.2
    refine R_icmp_ge (tgt := 30) (pc' := 18) dX4_next_15 (by decide) hs4.1 hs4.2 rfl (fun hc3 => ?_) (fun hc3 => ?_)
    · have h := h.1 hc3
      refine R_iconst (pc' := 31) dX4_next_30 rfl ?_
      exact Q_iret dX4_next_31 rfl h
    · have h := h.2 hc3
      refine R_aload_n (pc' := 19) dX4_next_18 rfl i3.1 rfl ?_
      have hs5 := h.1
      have h := h.2
      refine Q_getfq (J := 1) (pc' := 22) rfl dX4_next_19 l_RX4_15 i3 fd4_1.1 fd4_1.2.1 fd4_1.2.2.1 fd4_1.2.2.2 rfl ?_
      refine R_aload_n (pc' := 23) dX4_next_22 rfl i3.1 rfl ?_
      refine Q_getfi (J := 3) (pc' := 26) rfl dX4_next_23 l_RX4_29 i3 fd4_3.1 fd4_3.2.1 fd4_3.2.2.1 rfl ?_
      have hs6 := h.1
      have h := h.2
      refine Q_baload (N := 100) (pc' := 27) rfl dX4_next_26 hs5 (by decide) hs6 rfl ?_
      refine R_goto (tgt := 31) dX4_next_27 (by decide) ?_
      exact Q_iret dX4_next_31 rfl h
theorem e_X4_next {K : SK} {d : Nat} {c : ct} {Q : ct → Int → Prop}  (h : WI K (d + 1) mX4_next 0 [(2, 3)] [] c Q) : CI K (d + 1) mX4_next [(2, 3)] c Q := CM_ofS (by decide) (Nat.le_of_ble_eq_true rfl) _ rfl h
set_option maxRecDepth 100000 in
theorem s_X5_empty_0 {K : SK} {d : Nat} {c : ct} {Q : ct → Int → Prop} (t : Int) (nt : Nat) (ht : isRow t nt) (h : ∀ c1 : ct, c1 = up2 c t 4 0 → Q c1 (c1 t 4)) : WI K (d + 1) mX5_empty 0 [(2, t)] [] c Q := by
  refine R_aload_n (pc' := 1) dX5_empty_0 rfl (row_s ht).1 rfl ?_
  refine R_iconst (pc' := 2) dX5_empty_1 rfl ?_
  refine Q_putfi (J := 4) (pc' := 5) rfl dX5_empty_2 l_RX5_25 (row_s ht) fd5_4.1 fd5_4.2.1 fd5_4.2.2.2.1 fd5_4.2.2.2.2 rfl (fun c1 hc1 => ?_)
  have h := h c1 hc1
  refine R_aload_n (pc' := 6) dX5_empty_5 rfl (row_s ht).1 rfl ?_
  refine Q_getfi (J := 4) (pc' := 9) rfl dX5_empty_6 l_RX5_25 (row_s ht) fd5_4.1 fd5_4.2.1 fd5_4.2.2.1 rfl ?_
  exact Q_iret dX5_empty_9 rfl h
theorem e_X5_empty {K : SK} {d : Nat} {c : ct} {Q : ct → Int → Prop} (t : Int) (nt : Nat) (ht : isRow t nt) (h : WI K (d + 1) mX5_empty 0 [(2, t)] [] c Q) : CI K (d + 1) mX5_empty [(2, t)] c Q := CM_ofS (by decide) (Nat.le_of_ble_eq_true rfl) _ rfl h
set_option maxRecDepth 100000 in
theorem s_X5_add_0 {K : SK} {d : Nat} {c : ct} {Q : ct → Int → Prop} (t : Int) (nt : Nat) (ht : isRow t nt) (a1 : Int) (a2 : Int) (a3 : Int) (h : (ir (c t 4) ∧ ir (c t 3)) ∧ ((c t 4) < (c t 3) → ((0 ≤ (c t 4) ∧ (c t 4) < (nt : Int))) ∧ ∀ c3 : ct, c3 = up2 c (t + 1) (c t 4) a1 → ((0 ≤ (c3 t 4) ∧ (c3 t 4) < (nt : Int))) ∧ ∀ c5 : ct, c5 = up2 c3 (t + 2) (c3 t 4) a2 → ((0 ≤ (c5 t 4) ∧ (c5 t 4) < (nt : Int))) ∧ ∀ c7 : ct, c7 = up2 c5 (t + 3) (c5 t 4) a3 → ∀ c9 : ct, c9 = up2 c7 t 4 ((c7 t 4) + 1) → Q c9 (c9 t 4)) ∧ (¬ ((c t 4) < (c t 3)) → Q c (-4))) : WI K (d + 1) mX5_add 0 [(2, t), (0, a1), (0, a2), (0, a3)] [] c Q := by
  refine R_aload_n (pc' := 1) dX5_add_0 rfl (row_s ht).1 rfl ?_
  refine Q_getfi (J := 4) (pc' := 4) rfl dX5_add_1 l_RX5_25 (row_s ht) fd5_4.1 fd5_4.2.1 fd5_4.2.2.1 rfl ?_
  refine R_aload_n (pc' := 5) dX5_add_4 rfl (row_s ht).1 rfl ?_
  refine Q_getfi (J := 3) (pc' := 8) rfl dX5_add_5 l_RX5_9 (row_s ht) fd5_3.1 fd5_3.2.1 fd5_3.2.2.1 rfl ?_
  have hs2 := h.1
  have h := h.2
  refine R_icmp_lt (tgt := 14) (pc' := 11) dX5_add_8 (by decide) hs2.1 hs2.2 rfl (fun hc1 => ?_) (fun hc1 => ?_)
  · have h := h.1 hc1
    refine R_aload_n (pc' := 15) dX5_add_14 rfl (row_s ht).1 rfl ?_
    refine Q_getfr (v := (t + 1)) (J := 0) (pc' := 18) rfl dX5_add_15 l_RX5_15 (row_s ht) fd5_0.1 fd5_0.2.1 fd5_0.2.2.1 fd5_0.2.2.2 (row_f0 ht) rfl ?_
    refine R_aload_n (pc' := 19) dX5_add_18 rfl (row_s ht).1 rfl ?_
    refine Q_getfi (J := 4) (pc' := 22) rfl dX5_add_19 l_RX5_25 (row_s ht) fd5_4.1 fd5_4.2.1 fd5_4.2.2.1 rfl ?_
    refine R_iload_n (pc' := 23) dX5_add_22 rfl rfl ?_
    have hs4 := h.1
    have h := h.2
    refine Q_iastore (N := (nt : Int)) (pc' := 24) rfl dX5_add_23 (row_0 ht) (row_len ht) hs4  rfl (fun c3 hc3 => ?_)
    have h := h c3 hc3
    refine R_aload_n (pc' := 25) dX5_add_24 rfl (row_s ht).1 rfl ?_
    refine Q_getfr (v := (t + 2)) (J := 1) (pc' := 28) rfl dX5_add_25 l_RX5_19 (row_s ht) fd5_1.1 fd5_1.2.1 fd5_1.2.2.1 fd5_1.2.2.2 (row_f1 ht) rfl ?_
    refine R_aload_n (pc' := 29) dX5_add_28 rfl (row_s ht).1 rfl ?_
    refine Q_getfi (J := 4) (pc' := 32) rfl dX5_add_29 l_RX5_25 (row_s ht) fd5_4.1 fd5_4.2.1 fd5_4.2.2.1 rfl ?_
    refine R_iload_n (pc' := 33) dX5_add_32 rfl rfl ?_
    have hs6 := h.1
    have h := h.2
    refine Q_iastore (N := (nt : Int)) (pc' := 34) rfl dX5_add_33 (row_1 ht) (row_len ht) hs6  rfl (fun c5 hc5 => ?_)
    have h := h c5 hc5
    refine R_aload_n (pc' := 35) dX5_add_34 rfl (row_s ht).1 rfl ?_
    refine Q_getfr (v := (t + 3)) (J := 2) (pc' := 38) rfl dX5_add_35 l_RX5_22 (row_s ht) fd5_2.1 fd5_2.2.1 fd5_2.2.2.1 fd5_2.2.2.2 (row_f2 ht) rfl ?_
    refine R_aload_n (pc' := 39) dX5_add_38 rfl (row_s ht).1 rfl ?_
    refine Q_getfi (J := 4) (pc' := 42) rfl dX5_add_39 l_RX5_25 (row_s ht) fd5_4.1 fd5_4.2.1 fd5_4.2.2.1 rfl ?_
    refine R_iload_n (pc' := 43) dX5_add_42 rfl rfl ?_
    have hs8 := h.1
    have h := h.2
    refine Q_iastore (N := (nt : Int)) (pc' := 44) rfl dX5_add_43 (row_2 ht) (row_len ht) hs8  rfl (fun c7 hc7 => ?_)
    have h := h c7 hc7
    refine R_aload_n (pc' := 45) dX5_add_44 rfl (row_s ht).1 rfl ?_
    refine R_dup (pc' := 46) dX5_add_45 (by simp) rfl ?_
    refine Q_getfi (J := 4) (pc' := 49) rfl dX5_add_46 l_RX5_25 (row_s ht) fd5_4.1 fd5_4.2.1 fd5_4.2.2.1 rfl ?_
    refine R_iconst (pc' := 50) dX5_add_49 rfl ?_
    refine R_iadd (pc' := 51) dX5_add_50 rfl ?_
    refine Q_putfi (J := 4) (pc' := 54) rfl dX5_add_51 l_RX5_25 (row_s ht) fd5_4.1 fd5_4.2.1 fd5_4.2.2.2.1 fd5_4.2.2.2.2 rfl (fun c9 hc9 => ?_)
    have h := h c9 hc9
    refine R_aload_n (pc' := 55) dX5_add_54 rfl (row_s ht).1 rfl ?_
    refine Q_getfi (J := 4) (pc' := 58) rfl dX5_add_55 l_RX5_25 (row_s ht) fd5_4.1 fd5_4.2.1 fd5_4.2.2.1 rfl ?_
    exact Q_iret dX5_add_58 rfl h
  · have h := h.2 hc1
    refine R_bipush (pc' := 13) dX5_add_11 (by decide) rfl ?_
    exact Q_iret dX5_add_13 rfl h
theorem e_X5_add {K : SK} {d : Nat} {c : ct} {Q : ct → Int → Prop} (t : Int) (nt : Nat) (ht : isRow t nt) (a1 : Int) (a2 : Int) (a3 : Int) (h : WI K (d + 1) mX5_add 0 [(2, t), (0, a1), (0, a2), (0, a3)] [] c Q) : CI K (d + 1) mX5_add [(2, t), (0, a1), (0, a2), (0, a3)] c Q := CM_ofS (by decide) (Nat.le_of_ble_eq_true rfl) _ rfl h
set_option maxRecDepth 100000 in
theorem s_X5_greatestThird_0 {K : SK} {d : Nat} {c : ct} {Q : ct → Int → Prop} (t : Int) (nt : Nat) (ht : isRow t nt) (h : WI K (d + 1) mX5_greatestThird 4 [(2, t), (0, (-1)), (0, 0)] [] c Q) : WI K (d + 1) mX5_greatestThird 0 [(2, t), (9, 0), (9, 0)] [] c Q := by
  refine R_iconst (pc' := 1) dX5_greatestThird_0 rfl ?_
  refine R_istore_n (L' := [_, _, _]) (pc' := 2) dX5_greatestThird_1 (by decide) rfl rfl rfl ?_
  refine R_iconst (pc' := 3) dX5_greatestThird_2 rfl ?_
  refine R_istore_n (L' := [_, _, _]) (pc' := 4) dX5_greatestThird_3 (by decide) rfl rfl rfl ?_
  exact WP_wk (wk_e (wk_e (wk_e wk_n))) h
set_option maxRecDepth 100000 in
theorem s_X5_greatestThird_4 {K : SK} {d : Nat} {c : ct} {Q : ct → Int → Prop} (t : Int) (nt : Nat) (ht : isRow t nt) (a1 : Int) (a2 : Int) (h : (ir a2 ∧ ir (c t 4)) ∧ ((c t 4) ≤ a2 → Q c a1) ∧ (¬ ((c t 4) ≤ a2) → ((0 ≤ a2 ∧ a2 < (nt : Int))) ∧ (ir a1 ∧ ir (c (t + 3) a2)) ∧ WI K (d + 1) mX5_greatestThird 4 [(2, t), (0, (if a1 < (c (t + 3) a2) then (c (t + 3) a2) else a1)), (0, (a2 + 1))] [] c Q)) : WI K (d + 1) mX5_greatestThird 4 [(2, t), (0, a1), (0, a2)] [] c Q := by
  refine R_iload_n (pc' := 5) dX5_greatestThird_4 rfl rfl ?_
  refine R_aload_n (pc' := 6) dX5_greatestThird_5 rfl (row_s ht).1 rfl ?_
  refine Q_getfi (J := 4) (pc' := 9) rfl dX5_greatestThird_6 l_RX5_25 (row_s ht) fd5_4.1 fd5_4.2.1 fd5_4.2.2.1 rfl ?_
  have hs2 := h.1
  have h := h.2
  refine R_icmp_ge (tgt := 29) (pc' := 12) dX5_greatestThird_9 (by decide) hs2.1 hs2.2 rfl (fun hc1 => ?_) (fun hc1 => ?_)
  · have h := h.1 hc1
    refine R_iload_n (pc' := 30) dX5_greatestThird_29 rfl rfl ?_
    exact Q_iret dX5_greatestThird_30 rfl h
  · have h := h.2 hc1
    refine R_iload_n (pc' := 13) dX5_greatestThird_12 rfl rfl ?_
    refine R_aload_n (pc' := 14) dX5_greatestThird_13 rfl (row_s ht).1 rfl ?_
    refine Q_getfr (v := (t + 3)) (J := 2) (pc' := 17) rfl dX5_greatestThird_14 l_RX5_22 (row_s ht) fd5_2.1 fd5_2.2.1 fd5_2.2.2.1 fd5_2.2.2.2 (row_f2 ht) rfl ?_
    refine R_iload_n (pc' := 18) dX5_greatestThird_17 rfl rfl ?_
    have hs3 := h.1
    have h := h.2
    refine Q_iaload (N := (nt : Int)) (pc' := 19) rfl dX5_greatestThird_18 (row_2 ht) (row_len ht) hs3 rfl ?_
    have hs4 := h.1
    have h := h.2
    refine R_mmax (pc' := 22) dX5_greatestThird_19 (by omega) hs4.1 hs4.2 (Nat.le_of_ble_eq_true rfl) (Nat.zero_le _) (Nat.zero_le _) l_RX5_28 w_mmaxs w_ini_java_lang_Math w_mmaxc rfl ?_
    refine R_istore_n (L' := [_, _, _]) (pc' := 23) dX5_greatestThird_22 (by decide) rfl rfl rfl ?_
    refine R_iinc (L' := [_, _, _]) (pc' := 26) dX5_greatestThird_23 rfl (by decide) rfl rfl rfl ?_
    refine R_goto (tgt := 4) dX5_greatestThird_26 (by decide) ?_
    exact WP_wk (wk_e (wk_e (wk_e wk_n))) h
theorem e_X5_greatestThird {K : SK} {d : Nat} {c : ct} {Q : ct → Int → Prop} (t : Int) (nt : Nat) (ht : isRow t nt) (h : WI K (d + 1) mX5_greatestThird 0 [(2, t), (9, 0), (9, 0)] [] c Q) : CI K (d + 1) mX5_greatestThird [(2, t)] c Q := CM_ofS (by decide) (Nat.le_of_ble_eq_true rfl) _ rfl h
set_option maxRecDepth 100000 in
theorem s_X5_copyFrom_0 {K : SK} {d : Nat} {c : ct} {Q : ct → Prop} (t : Int) (nt : Nat) (ht : isRow t nt) (a1 : Int) (na1 : Nat) (ha1 : isRow a1 na1) (h : ∀ c1 : ct, c1 = up2 c t 4 (c a1 4) → ((((0 : Int) ≤ 0 ∧ (0 : Int) ≤ 0 ∧ (0 : Int) ≤ (c1 t 3)) ∧ 0 + (c1 t 3) ≤ (na1 : Int) ∧ 0 + (c1 t 3) ≤ (nt : Int))) ∧ ∀ c2 : ct, c2 = upRow c1 (t + 1) (cpyI (c1 (a1 + 1)) (c1 (t + 1)) 0 0 (c1 t 3)) → ((((0 : Int) ≤ 0 ∧ (0 : Int) ≤ 0 ∧ (0 : Int) ≤ (c2 t 3)) ∧ 0 + (c2 t 3) ≤ (na1 : Int) ∧ 0 + (c2 t 3) ≤ (nt : Int))) ∧ ∀ c4 : ct, c4 = upRow c2 (t + 2) (cpyI (c2 (a1 + 2)) (c2 (t + 2)) 0 0 (c2 t 3)) → ((((0 : Int) ≤ 0 ∧ (0 : Int) ≤ 0 ∧ (0 : Int) ≤ (c4 t 3)) ∧ 0 + (c4 t 3) ≤ (na1 : Int) ∧ 0 + (c4 t 3) ≤ (nt : Int))) ∧ ∀ c6 : ct, c6 = upRow c4 (t + 3) (cpyI (c4 (a1 + 3)) (c4 (t + 3)) 0 0 (c4 t 3)) → Q c6) : WV K (d + 1) mX5_copyFrom 0 [(2, t), (2, a1)] [] c Q := by
  refine R_aload_n (pc' := 1) dX5_copyFrom_0 rfl (row_s ht).1 rfl ?_
  refine R_aload_n (pc' := 2) dX5_copyFrom_1 rfl (row_s ha1).1 rfl ?_
  refine Q_getfi (J := 4) (pc' := 5) rfl dX5_copyFrom_2 l_RX5_25 (row_s ha1) fd5_4.1 fd5_4.2.1 fd5_4.2.2.1 rfl ?_
  refine Q_putfi (J := 4) (pc' := 8) rfl dX5_copyFrom_5 l_RX5_25 (row_s ht) fd5_4.1 fd5_4.2.1 fd5_4.2.2.2.1 fd5_4.2.2.2.2 rfl (fun c1 hc1 => ?_)
  have h := h c1 hc1
  refine R_aload_n (pc' := 9) dX5_copyFrom_8 rfl (row_s ha1).1 rfl ?_
  refine Q_getfr (v := (a1 + 1)) (J := 0) (pc' := 12) rfl dX5_copyFrom_9 l_RX5_15 (row_s ha1) fd5_0.1 fd5_0.2.1 fd5_0.2.2.1 fd5_0.2.2.2 (row_f0 ha1) rfl ?_
  refine R_iconst (pc' := 13) dX5_copyFrom_12 rfl ?_
  refine R_aload_n (pc' := 14) dX5_copyFrom_13 rfl (row_s ht).1 rfl ?_
  refine Q_getfr (v := (t + 1)) (J := 0) (pc' := 17) rfl dX5_copyFrom_14 l_RX5_15 (row_s ht) fd5_0.1 fd5_0.2.1 fd5_0.2.2.1 fd5_0.2.2.2 (row_f0 ht) rfl ?_
  refine R_iconst (pc' := 18) dX5_copyFrom_17 rfl ?_
  refine R_aload_n (pc' := 19) dX5_copyFrom_18 rfl (row_s ht).1 rfl ?_
  refine Q_getfi (J := 3) (pc' := 22) rfl dX5_copyFrom_19 l_RX5_9 (row_s ht) fd5_3.1 fd5_3.2.1 fd5_3.2.2.1 rfl ?_
  have hs3 := h.1
  have h := h.2
  refine Q_cpyi (pc' := 25) dX5_copyFrom_22 l_RX5_34 (by omega) (Nat.le_of_ble_eq_true rfl) (row_0 ha1) (row_0 ht) (row_len2 ha1) (row_len2 ht) hs3 rfl (fun c2 hc2 => ?_)
  have h := h c2 hc2
  refine R_aload_n (pc' := 26) dX5_copyFrom_25 rfl (row_s ha1).1 rfl ?_
  refine Q_getfr (v := (a1 + 2)) (J := 1) (pc' := 29) rfl dX5_copyFrom_26 l_RX5_19 (row_s ha1) fd5_1.1 fd5_1.2.1 fd5_1.2.2.1 fd5_1.2.2.2 (row_f1 ha1) rfl ?_
  refine R_iconst (pc' := 30) dX5_copyFrom_29 rfl ?_
  refine R_aload_n (pc' := 31) dX5_copyFrom_30 rfl (row_s ht).1 rfl ?_
  refine Q_getfr (v := (t + 2)) (J := 1) (pc' := 34) rfl dX5_copyFrom_31 l_RX5_19 (row_s ht) fd5_1.1 fd5_1.2.1 fd5_1.2.2.1 fd5_1.2.2.2 (row_f1 ht) rfl ?_
  refine R_iconst (pc' := 35) dX5_copyFrom_34 rfl ?_
  refine R_aload_n (pc' := 36) dX5_copyFrom_35 rfl (row_s ht).1 rfl ?_
  refine Q_getfi (J := 3) (pc' := 39) rfl dX5_copyFrom_36 l_RX5_9 (row_s ht) fd5_3.1 fd5_3.2.1 fd5_3.2.2.1 rfl ?_
  have hs5 := h.1
  have h := h.2
  refine Q_cpyi (pc' := 42) dX5_copyFrom_39 l_RX5_34 (by omega) (Nat.le_of_ble_eq_true rfl) (row_1 ha1) (row_1 ht) (row_len2 ha1) (row_len2 ht) hs5 rfl (fun c4 hc4 => ?_)
  have h := h c4 hc4
  refine R_aload_n (pc' := 43) dX5_copyFrom_42 rfl (row_s ha1).1 rfl ?_
  refine Q_getfr (v := (a1 + 3)) (J := 2) (pc' := 46) rfl dX5_copyFrom_43 l_RX5_22 (row_s ha1) fd5_2.1 fd5_2.2.1 fd5_2.2.2.1 fd5_2.2.2.2 (row_f2 ha1) rfl ?_
  refine R_iconst (pc' := 47) dX5_copyFrom_46 rfl ?_
  refine R_aload_n (pc' := 48) dX5_copyFrom_47 rfl (row_s ht).1 rfl ?_
  refine Q_getfr (v := (t + 3)) (J := 2) (pc' := 51) rfl dX5_copyFrom_48 l_RX5_22 (row_s ht) fd5_2.1 fd5_2.2.1 fd5_2.2.2.1 fd5_2.2.2.2 (row_f2 ht) rfl ?_
  refine R_iconst (pc' := 52) dX5_copyFrom_51 rfl ?_
  refine R_aload_n (pc' := 53) dX5_copyFrom_52 rfl (row_s ht).1 rfl ?_
  refine Q_getfi (J := 3) (pc' := 56) rfl dX5_copyFrom_53 l_RX5_9 (row_s ht) fd5_3.1 fd5_3.2.1 fd5_3.2.2.1 rfl ?_
  have hs7 := h.1
  have h := h.2
  refine Q_cpyi (pc' := 59) dX5_copyFrom_56 l_RX5_34 (by omega) (Nat.le_of_ble_eq_true rfl) (row_2 ha1) (row_2 ht) (row_len2 ha1) (row_len2 ht) hs7 rfl (fun c6 hc6 => ?_)
  have h := h c6 hc6
  exact Q_ret dX5_copyFrom_59 rfl h
theorem e_X5_copyFrom {K : SK} {d : Nat} {c : ct} {Q : ct → Prop} (t : Int) (nt : Nat) (ht : isRow t nt) (a1 : Int) (na1 : Nat) (ha1 : isRow a1 na1) (h : WV K (d + 1) mX5_copyFrom 0 [(2, t), (2, a1)] [] c Q) : CV K (d + 1) mX5_copyFrom [(2, t), (2, a1)] c Q := CM_ofS (by decide) (Nat.le_of_ble_eq_true rfl) _ rfl h
set_option maxRecDepth 100000 in
theorem s_X7_become_0 {K : SK} {d : Nat} {c : ct} {Q : ct → Prop} (t : Int) (ht : isTap t) (a1 : Int) (a2 : Int) (h : ∀ c1 : ct, c1 = up2 c t 1 a1 → ∀ c2 : ct, c2 = up2 c1 t 2 a2 → WV K (d + 1) mX7_become 12 [(2, t), (9, 0), (9, 0), (0, 0)] [] c2 Q) : WV K (d + 1) mX7_become 0 [(2, t), (0, a1), (0, a2), (9, 0)] [] c Q := by
  refine R_aload_n (pc' := 1) dX7_become_0 rfl (tap_s ht).1 rfl ?_
  refine R_iload_n (pc' := 2) dX7_become_1 rfl rfl ?_
  refine Q_putfi (J := 1) (pc' := 5) rfl dX7_become_2 l_RX7_15 (tap_s ht) fd7_1.1 fd7_1.2.1 fd7_1.2.2.2.1 fd7_1.2.2.2.2 rfl (fun c1 hc1 => ?_)
  have h := h c1 hc1
  refine R_aload_n (pc' := 6) dX7_become_5 rfl (tap_s ht).1 rfl ?_
  refine R_iload_n (pc' := 7) dX7_become_6 rfl rfl ?_
  refine Q_putfi (J := 2) (pc' := 10) rfl dX7_become_7 l_RX7_19 (tap_s ht) fd7_2.1 fd7_2.2.1 fd7_2.2.2.2.1 fd7_2.2.2.2.2 rfl (fun c2 hc2 => ?_)
  have h := h c2 hc2
  refine R_iconst (pc' := 11) dX7_become_10 rfl ?_
  refine R_istore_n (L' := [_, _, _, _]) (pc' := 12) dX7_become_11 (by decide) rfl rfl rfl ?_
  exact WP_wk (wk_e (wk_u (wk_u (wk_e wk_n)))) h
set_option maxRecDepth 100000 in
theorem s_X7_become_12 {K : SK} {d : Nat} {c : ct} {Q : ct → Prop} (t : Int) (ht : isTap t) (a3 : Int) (h : (ir a3) ∧ (60 ≤ a3 → Q c) ∧ (¬ (60 ≤ a3) → ((0 ≤ a3 ∧ a3 < 60)) ∧ ∀ c3 : ct, c3 = up2 c (t + 1) a3 0 → WV K (d + 1) mX7_become 12 [(2, t), (9, 0), (9, 0), (0, (a3 + 1))] [] c3 Q)) : WV K (d + 1) mX7_become 12 [(2, t), (9, 0), (9, 0), (0, a3)] [] c Q := by
  refine R_iload_n (pc' := 13) dX7_become_12 rfl rfl ?_
  refine R_bipush (pc' := 15) dX7_become_13 (by decide) rfl ?_
  have hs2 := h.1
  have h := h.2
  refine R_icmp_ge (tgt := 31) (pc' := 18) dX7_become_15 (by decide) hs2 (ir_l (by decide) (by decide)) rfl (fun hc1 => ?_) (fun hc1 => ?_)
  · have h := h.1 hc1
    exact Q_ret dX7_become_31 rfl h
  · have h := h.2 hc1
    refine R_aload_n (pc' := 19) dX7_become_18 rfl (tap_s ht).1 rfl ?_
    refine Q_getfr (v := (t + 1)) (J := 0) (pc' := 22) rfl dX7_become_19 l_RX7_9 (tap_s ht) fd7_0.1 fd7_0.2.1 fd7_0.2.2.1 fd7_0.2.2.2 (tap_f0 ht) rfl ?_
    refine R_iload_n (pc' := 23) dX7_become_22 rfl rfl ?_
    refine R_lconst (x := 0) (pc' := 24) dX7_become_23 (by decide) rfl ?_
    have hs4 := h.1
    have h := h.2
    refine Q_lastore (N := 60) (pc' := 25) rfl dX7_become_24 (tap_0 ht) (by decide) hs4  rfl (fun c3 hc3 => ?_)
    have h := h c3 hc3
    refine R_iinc (L' := [_, _, _, _]) (pc' := 28) dX7_become_25 rfl (by decide) rfl rfl rfl ?_
    refine R_goto (tgt := 12) dX7_become_28 (by decide) ?_
    exact WP_wk (wk_e (wk_u (wk_u (wk_e wk_n)))) h
theorem e_X7_become {K : SK} {d : Nat} {c : ct} {Q : ct → Prop} (t : Int) (ht : isTap t) (a1 : Int) (a2 : Int) (h : WV K (d + 1) mX7_become 0 [(2, t), (0, a1), (0, a2), (9, 0)] [] c Q) : CV K (d + 1) mX7_become [(2, t), (0, a1), (0, a2)] c Q := CM_ofS (by decide) (Nat.le_of_ble_eq_true rfl) _ rfl h
set_option maxRecDepth 100000 in
theorem s_X7_hasPlace_0 {K : SK} {d : Nat} {c : ct} {Q : ct → Int → Prop} (t : Int) (ht : isTap t) (a1 : Int) (h : (ir a1) ∧ (a1 < 0 → Q c 0) ∧ (¬ (a1 < 0) → (ir a1 ∧ ir (c t 2)) ∧ ((c t 2) ≤ a1 → Q c 0) ∧ (¬ ((c t 2) ≤ a1) → Q c 1))) : WI K (d + 1) mX7_hasPlace 0 [(2, t), (0, a1)] [] c Q := by
  refine R_iload_n (pc' := 1) dX7_hasPlace_0 rfl rfl ?_
  have hs2 := h.1
  have h := h.2
  refine R_if_lt (tgt := 16) (pc' := 4) dX7_hasPlace_1 (by decide) hs2  rfl (fun hc1 => ?_) (fun hc1 => ?_)
  · have h := h.1 hc1
    refine R_iconst (pc' := 17) dX7_hasPlace_16 rfl ?_
    exact Q_zret dX7_hasPlace_17 rfl (Or.inl rfl) h
  · have h := h.2 hc1
    refine R_iload_n (pc' := 5) dX7_hasPlace_4 rfl rfl ?_
    refine R_aload_n (pc' := 6) dX7_hasPlace_5 rfl (tap_s ht).1 rfl ?_
    refine Q_getfi (J := 2) (pc' := 9) rfl dX7_hasPlace_6 l_RX7_19 (tap_s ht) fd7_2.1 fd7_2.2.1 fd7_2.2.2.1 rfl ?_
    have hs4 := h.1
    have h := h.2
    refine R_icmp_ge (tgt := 16) (pc' := 12) dX7_hasPlace_9 (by decide) hs4.1 hs4.2 rfl (fun hc3 => ?_) (fun hc3 => ?_)
    · have h := h.1 hc3
      refine R_iconst (pc' := 17) dX7_hasPlace_16 rfl ?_
      exact Q_zret dX7_hasPlace_17 rfl (Or.inl rfl) h
    · have h := h.2 hc3
      refine R_iconst (pc' := 13) dX7_hasPlace_12 rfl ?_
      refine R_goto (tgt := 17) dX7_hasPlace_13 (by decide) ?_
      exact Q_zret dX7_hasPlace_17 rfl (Or.inr rfl) h
theorem e_X7_hasPlace {K : SK} {d : Nat} {c : ct} {Q : ct → Int → Prop} (t : Int) (ht : isTap t) (a1 : Int) (h : WI K (d + 1) mX7_hasPlace 0 [(2, t), (0, a1)] [] c Q) : CI K (d + 1) mX7_hasPlace [(2, t), (0, a1)] c Q := CM_ofS (by decide) (Nat.le_of_ble_eq_true rfl) _ rfl h
set_option maxRecDepth 100000 in
theorem s_X7_hasPlaces_0 {K : SK} {d : Nat} {c : ct} {Q : ct → Int → Prop} (t : Int) (ht : isTap t) (a1 : Int) (a2 : Int) (h : (ir a1) ∧ (a1 < 0 → Q c 0) ∧ (¬ (a1 < 0) → (ir a2) ∧ (a2 < 0 → Q c 0) ∧ (¬ (a2 < 0) → (ir a1 ∧ ir ((c t 2) - a2)) ∧ (((c t 2) - a2) < a1 → Q c 0) ∧ (¬ (((c t 2) - a2) < a1) → Q c 1)))) : WI K (d + 1) mX7_hasPlaces 0 [(2, t), (0, a1), (0, a2)] [] c Q := by
  refine R_iload_n (pc' := 1) dX7_hasPlaces_0 rfl rfl ?_
  have hs2 := h.1
  have h := h.2
  refine R_if_lt (tgt := 22) (pc' := 4) dX7_hasPlaces_1 (by decide) hs2  rfl (fun hc1 => ?_) (fun hc1 => ?_)
  · have h := h.1 hc1
    refine R_iconst (pc' := 23) dX7_hasPlaces_22 rfl ?_
    exact Q_zret dX7_hasPlaces_23 rfl (Or.inl rfl) h
  · have h := h.2 hc1
    refine R_iload_n (pc' := 5) dX7_hasPlaces_4 rfl rfl ?_
    have hs4 := h.1
    have h := h.2
    refine R_if_lt (tgt := 22) (pc' := 8) dX7_hasPlaces_5 (by decide) hs4  rfl (fun hc3 => ?_) (fun hc3 => ?_)
    · have h := h.1 hc3
      refine R_iconst (pc' := 23) dX7_hasPlaces_22 rfl ?_
      exact Q_zret dX7_hasPlaces_23 rfl (Or.inl rfl) h
    · have h := h.2 hc3
      refine R_iload_n (pc' := 9) dX7_hasPlaces_8 rfl rfl ?_
      refine R_aload_n (pc' := 10) dX7_hasPlaces_9 rfl (tap_s ht).1 rfl ?_
      refine Q_getfi (J := 2) (pc' := 13) rfl dX7_hasPlaces_10 l_RX7_19 (tap_s ht) fd7_2.1 fd7_2.2.1 fd7_2.2.2.1 rfl ?_
      refine R_iload_n (pc' := 14) dX7_hasPlaces_13 rfl rfl ?_
      refine R_isub (pc' := 15) dX7_hasPlaces_14 rfl ?_
      have hs6 := h.1
      have h := h.2
      refine R_icmp_gt (tgt := 22) (pc' := 18) dX7_hasPlaces_15 (by decide) hs6.1 hs6.2 rfl (fun hc5 => ?_) (fun hc5 => ?_)
      · have h := h.1 hc5
        refine R_iconst (pc' := 23) dX7_hasPlaces_22 rfl ?_
        exact Q_zret dX7_hasPlaces_23 rfl (Or.inl rfl) h
      · have h := h.2 hc5
        refine R_iconst (pc' := 19) dX7_hasPlaces_18 rfl ?_
        refine R_goto (tgt := 23) dX7_hasPlaces_19 (by decide) ?_
        exact Q_zret dX7_hasPlaces_23 rfl (Or.inr rfl) h
theorem e_X7_hasPlaces {K : SK} {d : Nat} {c : ct} {Q : ct → Int → Prop} (t : Int) (ht : isTap t) (a1 : Int) (a2 : Int) (h : WI K (d + 1) mX7_hasPlaces 0 [(2, t), (0, a1), (0, a2)] [] c Q) : CI K (d + 1) mX7_hasPlaces [(2, t), (0, a1), (0, a2)] c Q := CM_ofS (by decide) (Nat.le_of_ble_eq_true rfl) _ rfl h
set_option maxRecDepth 100000 in
theorem s_X7_put_0 {K : SK} {d : Nat} {c : ct} {Q : ct → Prop} (t : Int) (ht : isTap t) (a1 : Int) (a2 : Int) (h : ir (c t 1) ∧ ((c t 1) = 0 → (ir (toB (toI a2))) ∧ ((0 ≤ a1 ∧ a1 < 60)) ∧ ∀ c3 : ct, c3 = up2 c (t + 1) a1 (toB (toI a2)) → Q c3) ∧ ((c t 1) = 1 → (ir (toS (toI a2))) ∧ ((0 ≤ a1 ∧ a1 < 60)) ∧ ∀ c7 : ct, c7 = up2 c (t + 1) a1 (toS (toI a2)) → Q c7) ∧ ((c t 1) = 2 → (ir (toI a2)) ∧ ((0 ≤ a1 ∧ a1 < 60)) ∧ ∀ c11 : ct, c11 = up2 c (t + 1) a1 (toI a2) → Q c11) ∧ ((c t 1) = 3 → ((0 ≤ a1 ∧ a1 < 60)) ∧ ∀ c14 : ct, c14 = up2 c (t + 1) a1 a2 → Q c14) ∧ (((c t 1) < 0 ∨ 3 < (c t 1)) → (a2 = 0 → CI K d mX8_oneIf [(0, 0)] c (fun c16 r17 => (ir r17) ∧ ((0 ≤ a1 ∧ a1 < 60)) ∧ ∀ c19 : ct, c19 = up2 c16 (t + 1) a1 r17 → Q c19)) ∧ (¬ (a2 = 0) → (il a2 ∧ il 0) ∧ ∀ z21 : Int, z21 = (if 0 < a2 then 1 else -1) → (z21 = 0 → CI K d mX8_oneIf [(0, 0)] c (fun c23 r24 => (ir r24) ∧ ((0 ≤ a1 ∧ a1 < 60)) ∧ ∀ c26 : ct, c26 = up2 c23 (t + 1) a1 r24 → Q c26)) ∧ (¬ (z21 = 0) → ir z21 ∧ CI K d mX8_oneIf [(0, 1)] c (fun c28 r29 => (ir r29) ∧ ((0 ≤ a1 ∧ a1 < 60)) ∧ ∀ c31 : ct, c31 = up2 c28 (t + 1) a1 r29 → Q c31))))) : WV K (d + 1) mX7_put 0 [(2, t), (0, a1), (1, a2), (9, 0)] [] c Q := by
  refine R_aload_n (pc' := 1) dX7_put_0 rfl (tap_s ht).1 rfl ?_
  refine Q_getfi (J := 1) (pc' := 4) rfl dX7_put_1 l_RX7_15 (tap_s ht) fd7_1.1 fd7_1.2.1 fd7_1.2.2.1 rfl ?_
  have hs0 := h.1
  have h := h.2
  rcases (show (c t 1) = 0 ∨ (c t 1) = 1 ∨ (c t 1) = 2 ∨ (c t 1) = 3 ∨ ((c t 1) < 0 ∨ 3 < (c t 1)) by omega) with hk | hk | hk | hk | hk
  · have h := h.1 hk
    refine R_tableAt (tgt := 36) 0 hk dX7_put_4 (ir_l (by decide) (by decide)) (by decide) rfl (by decide) ?_
    refine R_aload_n (pc' := 37) dX7_put_36 rfl (tap_s ht).1 rfl ?_
    refine Q_getfr (v := (t + 1)) (J := 0) (pc' := 40) rfl dX7_put_37 l_RX7_9 (tap_s ht) fd7_0.1 fd7_0.2.1 fd7_0.2.2.1 fd7_0.2.2.2 (tap_f0 ht) rfl ?_
    refine R_iload_n (pc' := 41) dX7_put_40 rfl rfl ?_
    refine R_lload_n (pc' := 42) dX7_put_41 rfl rfl ?_
    refine R_l2i (pc' := 43) dX7_put_42 rfl ?_
    refine R_i2b (pc' := 44) dX7_put_43 rfl ?_
    have hs2 := h.1
    have h := h.2
    refine R_i2l (pc' := 45) dX7_put_44 hs2 rfl ?_
    have hs4 := h.1
    have h := h.2
    refine Q_lastore (N := 60) (pc' := 46) rfl dX7_put_45 (tap_0 ht) (by decide) hs4  rfl (fun c3 hc3 => ?_)
    have h := h c3 hc3
    refine R_goto (tgt := 105) dX7_put_46 (by decide) ?_
    exact Q_ret dX7_put_105 rfl h
  · have h := h.2.1 hk
    refine R_tableAt (tgt := 49) 1 hk dX7_put_4 (ir_l (by decide) (by decide)) (by decide) rfl (by decide) ?_
    refine R_aload_n (pc' := 50) dX7_put_49 rfl (tap_s ht).1 rfl ?_
    refine Q_getfr (v := (t + 1)) (J := 0) (pc' := 53) rfl dX7_put_50 l_RX7_9 (tap_s ht) fd7_0.1 fd7_0.2.1 fd7_0.2.2.1 fd7_0.2.2.2 (tap_f0 ht) rfl ?_
    refine R_iload_n (pc' := 54) dX7_put_53 rfl rfl ?_
    refine R_lload_n (pc' := 55) dX7_put_54 rfl rfl ?_
    refine R_l2i (pc' := 56) dX7_put_55 rfl ?_
    refine R_i2s (pc' := 57) dX7_put_56 rfl ?_
    have hs6 := h.1
    have h := h.2
    refine R_i2l (pc' := 58) dX7_put_57 hs6 rfl ?_
    have hs8 := h.1
    have h := h.2
    refine Q_lastore (N := 60) (pc' := 59) rfl dX7_put_58 (tap_0 ht) (by decide) hs8  rfl (fun c7 hc7 => ?_)
    have h := h c7 hc7
    refine R_goto (tgt := 105) dX7_put_59 (by decide) ?_
    exact Q_ret dX7_put_105 rfl h
  · have h := h.2.2.1 hk
    refine R_tableAt (tgt := 62) 2 hk dX7_put_4 (ir_l (by decide) (by decide)) (by decide) rfl (by decide) ?_
    refine R_aload_n (pc' := 63) dX7_put_62 rfl (tap_s ht).1 rfl ?_
    refine Q_getfr (v := (t + 1)) (J := 0) (pc' := 66) rfl dX7_put_63 l_RX7_9 (tap_s ht) fd7_0.1 fd7_0.2.1 fd7_0.2.2.1 fd7_0.2.2.2 (tap_f0 ht) rfl ?_
    refine R_iload_n (pc' := 67) dX7_put_66 rfl rfl ?_
    refine R_lload_n (pc' := 68) dX7_put_67 rfl rfl ?_
    refine R_l2i (pc' := 69) dX7_put_68 rfl ?_
    have hs10 := h.1
    have h := h.2
    refine R_i2l (pc' := 70) dX7_put_69 hs10 rfl ?_
    have hs12 := h.1
    have h := h.2
    refine Q_lastore (N := 60) (pc' := 71) rfl dX7_put_70 (tap_0 ht) (by decide) hs12  rfl (fun c11 hc11 => ?_)
    have h := h c11 hc11
    refine R_goto (tgt := 105) dX7_put_71 (by decide) ?_
    exact Q_ret dX7_put_105 rfl h
  · have h := h.2.2.2.1 hk
    refine R_tableAt (tgt := 74) 3 hk dX7_put_4 (ir_l (by decide) (by decide)) (by decide) rfl (by decide) ?_
    refine R_aload_n (pc' := 75) dX7_put_74 rfl (tap_s ht).1 rfl ?_
    refine Q_getfr (v := (t + 1)) (J := 0) (pc' := 78) rfl dX7_put_75 l_RX7_9 (tap_s ht) fd7_0.1 fd7_0.2.1 fd7_0.2.2.1 fd7_0.2.2.2 (tap_f0 ht) rfl ?_
    refine R_iload_n (pc' := 79) dX7_put_78 rfl rfl ?_
    refine R_lload_n (pc' := 80) dX7_put_79 rfl rfl ?_
    have hs15 := h.1
    have h := h.2
    refine Q_lastore (N := 60) (pc' := 81) rfl dX7_put_80 (tap_0 ht) (by decide) hs15  rfl (fun c14 hc14 => ?_)
    have h := h c14 hc14
    refine R_goto (tgt := 105) dX7_put_81 (by decide) ?_
    exact Q_ret dX7_put_105 rfl h
  · have h := h.2.2.2.2 hk
    refine R_tableOut (tgt := 84) dX7_put_4 hs0 hk (by decide) ?_
    refine R_aload_n (pc' := 85) dX7_put_84 rfl (tap_s ht).1 rfl ?_
    refine Q_getfr (v := (t + 1)) (J := 0) (pc' := 88) rfl dX7_put_85 l_RX7_9 (tap_s ht) fd7_0.1 fd7_0.2.1 fd7_0.2.2.1 fd7_0.2.2.2 (tap_f0 ht) rfl ?_
    refine R_iload_n (pc' := 89) dX7_put_88 rfl rfl ?_
    refine R_lload_n (pc' := 90) dX7_put_89 rfl rfl ?_
    refine R_lconst (x := 0) (pc' := 91) dX7_put_90 (by decide) rfl ?_
    by_cases hq33 : a2 = 0
    · have h := h.1 hq33
      refine R_lcmp_eq (pc' := 92) dX7_put_91 hq33 rfl ?_
      refine R_eqS_if (tgt := 99) (pc' := 95) dX7_put_92 (by decide) rfl rfl ?_
      refine R_iconst (pc' := 100) dX7_put_99 rfl ?_
      refine Q_callSNI (vs := [(0, 0)]) (st := [(0, a1), (2, (t + 1))]) (pc' := 103) dX7_put_100 l_RX7_22 rfl (Nat.le_of_ble_eq_true rfl) rfl (Nat.zero_le _) (Nat.zero_le _) rfl ?_
      refine CI.mono h (fun c16 r17 h => ?_)
      have hs18 := h.1
      have h := h.2
      refine R_i2l (pc' := 104) dX7_put_103 hs18 rfl ?_
      have hs20 := h.1
      have h := h.2
      refine Q_lastore (N := 60) (pc' := 105) rfl dX7_put_104 (tap_0 ht) (by decide) hs20  rfl (fun c19 hc19 => ?_)
      have h := h c19 hc19
      exact Q_ret dX7_put_105 rfl h
    · have h := h.2 hq33
      refine R_lcmp_ne (pc' := 92) dX7_put_91 h.1.1 h.1.2 hq33 rfl rfl ?_
      have h := h.2 _ rfl
      generalize (if 0 < a2 then (1 : Int) else -1) = z21 at h ⊢
      by_cases hc22 : z21 = 0
      · have h := h.1 hc22
        refine R_eqS_if (tgt := 99) (pc' := 95) dX7_put_92 (by decide) hc22 rfl ?_
        refine R_iconst (pc' := 100) dX7_put_99 rfl ?_
        refine Q_callSNI (vs := [(0, 0)]) (st := [(0, a1), (2, (t + 1))]) (pc' := 103) dX7_put_100 l_RX7_22 rfl (Nat.le_of_ble_eq_true rfl) rfl (Nat.zero_le _) (Nat.zero_le _) rfl ?_
        refine CI.mono h (fun c23 r24 h => ?_)
        have hs25 := h.1
        have h := h.2
        refine R_i2l (pc' := 104) dX7_put_103 hs25 rfl ?_
        have hs27 := h.1
        have h := h.2
        refine Q_lastore (N := 60) (pc' := 105) rfl dX7_put_104 (tap_0 ht) (by decide) hs27  rfl (fun c26 hc26 => ?_)
        have h := h c26 hc26
        exact Q_ret dX7_put_105 rfl h
      · have h := h.2 hc22
        refine R_eqD_if (tgt := 99) (pc' := 95) dX7_put_92 (by decide) hc22 h.1 rfl ?_
        have h := h.2
        refine R_iconst (pc' := 96) dX7_put_95 rfl ?_
        refine R_goto (tgt := 100) dX7_put_96 (by decide) ?_
        refine Q_callSNI (vs := [(0, 1)]) (st := [(0, a1), (2, (t + 1))]) (pc' := 103) dX7_put_100 l_RX7_22 rfl (Nat.le_of_ble_eq_true rfl) rfl (Nat.zero_le _) (Nat.zero_le _) rfl ?_
        refine CI.mono h (fun c28 r29 h => ?_)
        have hs30 := h.1
        have h := h.2
        refine R_i2l (pc' := 104) dX7_put_103 hs30 rfl ?_
        have hs32 := h.1
        have h := h.2
        refine Q_lastore (N := 60) (pc' := 105) rfl dX7_put_104 (tap_0 ht) (by decide) hs32  rfl (fun c31 hc31 => ?_)
        have h := h c31 hc31
        exact Q_ret dX7_put_105 rfl h
theorem e_X7_put {K : SK} {d : Nat} {c : ct} {Q : ct → Prop} (t : Int) (ht : isTap t) (a1 : Int) (a2 : Int) (h : WV K (d + 1) mX7_put 0 [(2, t), (0, a1), (1, a2), (9, 0)] [] c Q) : CV K (d + 1) mX7_put [(2, t), (0, a1), (1, a2)] c Q := CM_ofS (by decide) (Nat.le_of_ble_eq_true rfl) _ rfl h
set_option maxRecDepth 100000 in
theorem s_J6_bitCount_0f7a4_0 {K : SK} {d : Nat} {c : ct} {Q : ct → Int → Prop} (a0 : Int) (h : Q c (bAnd (((bAnd (((bAnd (a0 - (bAnd (bUshr a0 1) 1431655765)) 858993459) + (bAnd (bUshr (a0 - (bAnd (bUshr a0 1) 1431655765)) 2) 858993459)) + (bUshr ((bAnd (a0 - (bAnd (bUshr a0 1) 1431655765)) 858993459) + (bAnd (bUshr (a0 - (bAnd (bUshr a0 1) 1431655765)) 2) 858993459)) 4)) 252645135) + (bUshr (bAnd (((bAnd (a0 - (bAnd (bUshr a0 1) 1431655765)) 858993459) + (bAnd (bUshr (a0 - (bAnd (bUshr a0 1) 1431655765)) 2) 858993459)) + (bUshr ((bAnd (a0 - (bAnd (bUshr a0 1) 1431655765)) 858993459) + (bAnd (bUshr (a0 - (bAnd (bUshr a0 1) 1431655765)) 2) 858993459)) 4)) 252645135) 8)) + (bUshr ((bAnd (((bAnd (a0 - (bAnd (bUshr a0 1) 1431655765)) 858993459) + (bAnd (bUshr (a0 - (bAnd (bUshr a0 1) 1431655765)) 2) 858993459)) + (bUshr ((bAnd (a0 - (bAnd (bUshr a0 1) 1431655765)) 858993459) + (bAnd (bUshr (a0 - (bAnd (bUshr a0 1) 1431655765)) 2) 858993459)) 4)) 252645135) + (bUshr (bAnd (((bAnd (a0 - (bAnd (bUshr a0 1) 1431655765)) 858993459) + (bAnd (bUshr (a0 - (bAnd (bUshr a0 1) 1431655765)) 2) 858993459)) + (bUshr ((bAnd (a0 - (bAnd (bUshr a0 1) 1431655765)) 858993459) + (bAnd (bUshr (a0 - (bAnd (bUshr a0 1) 1431655765)) 2) 858993459)) 4)) 252645135) 8)) 16)) 63)) : WI K (d + 1) mJ6_bitCount_0f7a4 0 [(0, a0)] [] c Q := by
  refine R_iload_n (pc' := 1) dJ6_bitCount_0f7a4_0 rfl rfl ?_
  refine R_iload_n (pc' := 2) dJ6_bitCount_0f7a4_1 rfl rfl ?_
  refine R_iconst (pc' := 3) dJ6_bitCount_0f7a4_2 rfl ?_
  refine R_iushr (pc' := 4) dJ6_bitCount_0f7a4_3 rfl ?_
  refine R_ldcw (x := 1431655765) (pc' := 7) dJ6_bitCount_0f7a4_4 l_RJ6_265 (by decide) rfl ?_
  refine R_iand (pc' := 8) dJ6_bitCount_0f7a4_7 rfl ?_
  refine R_isub (pc' := 9) dJ6_bitCount_0f7a4_8 rfl ?_
  refine R_istore_n (L' := [_]) (pc' := 10) dJ6_bitCount_0f7a4_9 (by decide) rfl rfl rfl ?_
  refine R_iload_n (pc' := 11) dJ6_bitCount_0f7a4_10 rfl rfl ?_
  refine R_ldcw (x := 858993459) (pc' := 14) dJ6_bitCount_0f7a4_11 l_RJ6_266 (by decide) rfl ?_
  refine R_iand (pc' := 15) dJ6_bitCount_0f7a4_14 rfl ?_
  refine R_iload_n (pc' := 16) dJ6_bitCount_0f7a4_15 rfl rfl ?_
  refine R_iconst (pc' := 17) dJ6_bitCount_0f7a4_16 rfl ?_
  refine R_iushr (pc' := 18) dJ6_bitCount_0f7a4_17 rfl ?_
  refine R_ldcw (x := 858993459) (pc' := 21) dJ6_bitCount_0f7a4_18 l_RJ6_266 (by decide) rfl ?_
  refine R_iand (pc' := 22) dJ6_bitCount_0f7a4_21 rfl ?_
  refine R_iadd (pc' := 23) dJ6_bitCount_0f7a4_22 rfl ?_
  refine R_istore_n (L' := [_]) (pc' := 24) dJ6_bitCount_0f7a4_23 (by decide) rfl rfl rfl ?_
  refine R_iload_n (pc' := 25) dJ6_bitCount_0f7a4_24 rfl rfl ?_
  refine R_iload_n (pc' := 26) dJ6_bitCount_0f7a4_25 rfl rfl ?_
  refine R_iconst (pc' := 27) dJ6_bitCount_0f7a4_26 rfl ?_
  refine R_iushr (pc' := 28) dJ6_bitCount_0f7a4_27 rfl ?_
  refine R_iadd (pc' := 29) dJ6_bitCount_0f7a4_28 rfl ?_
  refine R_ldcw (x := 252645135) (pc' := 32) dJ6_bitCount_0f7a4_29 l_RJ6_267 (by decide) rfl ?_
  refine R_iand (pc' := 33) dJ6_bitCount_0f7a4_32 rfl ?_
  refine R_istore_n (L' := [_]) (pc' := 34) dJ6_bitCount_0f7a4_33 (by decide) rfl rfl rfl ?_
  refine R_iload_n (pc' := 35) dJ6_bitCount_0f7a4_34 rfl rfl ?_
  refine R_iload_n (pc' := 36) dJ6_bitCount_0f7a4_35 rfl rfl ?_
  refine R_bipush (pc' := 38) dJ6_bitCount_0f7a4_36 (by decide) rfl ?_
  refine R_iushr (pc' := 39) dJ6_bitCount_0f7a4_38 rfl ?_
  refine R_iadd (pc' := 40) dJ6_bitCount_0f7a4_39 rfl ?_
  refine R_istore_n (L' := [_]) (pc' := 41) dJ6_bitCount_0f7a4_40 (by decide) rfl rfl rfl ?_
  refine R_iload_n (pc' := 42) dJ6_bitCount_0f7a4_41 rfl rfl ?_
  refine R_iload_n (pc' := 43) dJ6_bitCount_0f7a4_42 rfl rfl ?_
  refine R_bipush (pc' := 45) dJ6_bitCount_0f7a4_43 (by decide) rfl ?_
  refine R_iushr (pc' := 46) dJ6_bitCount_0f7a4_45 rfl ?_
  refine R_iadd (pc' := 47) dJ6_bitCount_0f7a4_46 rfl ?_
  refine R_istore_n (L' := [_]) (pc' := 48) dJ6_bitCount_0f7a4_47 (by decide) rfl rfl rfl ?_
  refine R_iload_n (pc' := 49) dJ6_bitCount_0f7a4_48 rfl rfl ?_
  refine R_bipush (pc' := 51) dJ6_bitCount_0f7a4_49 (by decide) rfl ?_
  refine R_iand (pc' := 52) dJ6_bitCount_0f7a4_51 rfl ?_
  exact Q_iret dJ6_bitCount_0f7a4_52 rfl h
theorem e_J6_bitCount_0f7a4 {K : SK} {d : Nat} {c : ct} {Q : ct → Int → Prop} (a0 : Int) (h : WI K (d + 1) mJ6_bitCount_0f7a4 0 [(0, a0)] [] c Q) : CI K (d + 1) mJ6_bitCount_0f7a4 [(0, a0)] c Q := CM_ofS (by decide) (Nat.le_of_ble_eq_true rfl) _ rfl h
set_option maxRecDepth 100000 in
theorem s_J0_length_8abf5_0 {K : SK} {d : Nat} {c : ct} {Q : ct → Int → Prop} (si : Nat) (hsi : si < 4) (h : CI K d mJ0_coder_7d493 [(3, ((6 + si : Nat) : Int))] c (fun c1 r2 => Q c1 (bShr ((strLen.getD si 0 : Nat) : Int) r2))) : WI K (d + 1) mJ0_length_8abf5 0 [(3, ((6 + si : Nat) : Int))] [] c Q := by
  refine R_aload_n3 (pc' := 1) dJ0_length_8abf5_0 rfl rfl ?_
  refine R_strV (i := si) (pc' := 4) dJ0_length_8abf5_1 l_RJ0_9 hsi rfl ?_
  refine R_strN (i := si) (pc' := 5) dJ0_length_8abf5_4 hsi rfl ?_
  refine R_aload_n3 (pc' := 6) dJ0_length_8abf5_5 rfl rfl ?_
  refine Q_callStrI (i := si) (vs := []) (st := [(0, ((strLen.getD si 0 : Nat) : Int))]) (pc' := 9) dJ0_length_8abf5_6 l_RJ0_335 hsi rfl rfl (Nat.le_of_ble_eq_true rfl) rfl (Nat.zero_le _) (Nat.zero_le _) rfl ?_
  refine CI.mono h (fun c1 r2 h => ?_)
  refine R_ishr (pc' := 10) dJ0_length_8abf5_9 rfl ?_
  exact Q_iret dJ0_length_8abf5_10 rfl h
theorem e_J0_length_8abf5 {K : SK} {d : Nat} {c : ct} {Q : ct → Int → Prop} (si : Nat) (hsi : si < 4) (h : WI K (d + 1) mJ0_length_8abf5 0 [(3, ((6 + si : Nat) : Int))] [] c Q) : CI K (d + 1) mJ0_length_8abf5 [(3, ((6 + si : Nat) : Int))] c Q := CM_ofS (by decide) (Nat.le_of_ble_eq_true rfl) _ rfl h
set_option maxRecDepth 100000 in
theorem s_J0_charAt_5068e_0 {K : SK} {d : Nat} {c : ct} {Q : ct → Int → Prop} (si : Nat) (hsi : si < 4) (a1 : Int) (h : CI K d mJ0_isLatin1_aae02 [(3, ((6 + si : Nat) : Int))] c (fun c1 r2 => (r2 = 0 → CI K d mJ2_charAt_3b067 [(3, ((10 + si : Nat) : Int)), (0, a1)] c1 (fun c4 r5 => (narrow .char (.int (Int32.ofInt r5)) = .int (Int32.ofInt r5)) ∧ Q c4 r5)) ∧ (¬ (r2 = 0) → ir r2 ∧ CI K d mJ1_charAt_3b067 [(3, ((10 + si : Nat) : Int)), (0, a1)] c1 (fun c6 r7 => (narrow .char (.int (Int32.ofInt r7)) = .int (Int32.ofInt r7)) ∧ Q c6 r7)))) : WI K (d + 1) mJ0_charAt_5068e 0 [(3, ((6 + si : Nat) : Int)), (0, a1)] [] c Q := by
  refine R_aload_n3 (pc' := 1) dJ0_charAt_5068e_0 rfl rfl ?_
  refine Q_callStrI (i := si) (vs := []) (st := []) (pc' := 4) dJ0_charAt_5068e_1 l_RJ0_492 hsi rfl rfl (Nat.le_of_ble_eq_true rfl) rfl (Nat.zero_le _) (Nat.zero_le _) rfl ?_
  refine CI.mono h (fun c1 r2 h => ?_)
  by_cases hc3 : r2 = 0
  · have h := h.1 hc3
    refine R_eqS_if (tgt := 16) (pc' := 7) dJ0_charAt_5068e_4 (by decide) hc3 rfl ?_
    refine R_aload_n3 (pc' := 17) dJ0_charAt_5068e_16 rfl rfl ?_
    refine R_strV (i := si) (pc' := 20) dJ0_charAt_5068e_17 l_RJ0_9 hsi rfl ?_
    refine R_iload_n (pc' := 21) dJ0_charAt_5068e_20 rfl rfl ?_
    refine Q_callSI (vs := [(3, ((10 + si : Nat) : Int)), (0, a1)]) (st := []) (pc' := 24) dJ0_charAt_5068e_21 l_RJ0_498 rfl (Nat.le_of_ble_eq_true rfl) rfl (Nat.zero_le _) (Nat.zero_le _) rfl ?_
    refine CI.mono h (fun c4 r5 h => ?_)
    exact Q_nret dJ0_charAt_5068e_24 rfl h.1 h.2
  · have h := h.2 hc3
    refine R_eqD_if (tgt := 16) (pc' := 7) dJ0_charAt_5068e_4 (by decide) hc3 h.1 rfl ?_
    have h := h.2
    refine R_aload_n3 (pc' := 8) dJ0_charAt_5068e_7 rfl rfl ?_
    refine R_strV (i := si) (pc' := 11) dJ0_charAt_5068e_8 l_RJ0_9 hsi rfl ?_
    refine R_iload_n (pc' := 12) dJ0_charAt_5068e_11 rfl rfl ?_
    refine Q_callSI (vs := [(3, ((10 + si : Nat) : Int)), (0, a1)]) (st := []) (pc' := 15) dJ0_charAt_5068e_12 l_RJ0_495 rfl (Nat.le_of_ble_eq_true rfl) rfl (Nat.zero_le _) (Nat.zero_le _) rfl ?_
    refine CI.mono h (fun c6 r7 h => ?_)
    exact Q_nret dJ0_charAt_5068e_15 rfl h.1 h.2
theorem e_J0_charAt_5068e {K : SK} {d : Nat} {c : ct} {Q : ct → Int → Prop} (si : Nat) (hsi : si < 4) (a1 : Int) (h : WI K (d + 1) mJ0_charAt_5068e 0 [(3, ((6 + si : Nat) : Int)), (0, a1)] [] c Q) : CI K (d + 1) mJ0_charAt_5068e [(3, ((6 + si : Nat) : Int)), (0, a1)] c Q := CM_ofS (by decide) (Nat.le_of_ble_eq_true rfl) _ rfl h
set_option maxRecDepth 100000 in
theorem s_J0_coder_7d493_0 {K : SK} {d : Nat} {c : ct} {Q : ct → Int → Prop} (si : Nat) (hsi : si < 4) (h : Q c 0) : WI K (d + 1) mJ0_coder_7d493 0 [(3, ((6 + si : Nat) : Int))] [] c Q := by
  refine R_getsC (pc' := 3) dJ0_coder_7d493_0 l_RJ0_38 rfl ?_
  refine R_eqD_if (tgt := 13) (pc' := 6) dJ0_coder_7d493_3 (by decide) (by decide) (ir_l (by decide) (by decide)) rfl ?_
  refine R_aload_n3 (pc' := 7) dJ0_coder_7d493_6 rfl rfl ?_
  refine R_strK (i := si) (pc' := 10) dJ0_coder_7d493_7 l_RJ0_15 hsi rfl ?_
  refine R_goto (tgt := 14) dJ0_coder_7d493_10 (by decide) ?_
  exact Q_nret dJ0_coder_7d493_14 rfl (by decide) h
theorem e_J0_coder_7d493 {K : SK} {d : Nat} {c : ct} {Q : ct → Int → Prop} (si : Nat) (hsi : si < 4) (h : WI K (d + 1) mJ0_coder_7d493 0 [(3, ((6 + si : Nat) : Int))] [] c Q) : CI K (d + 1) mJ0_coder_7d493 [(3, ((6 + si : Nat) : Int))] c Q := CM_ofS (by decide) (Nat.le_of_ble_eq_true rfl) _ rfl h
set_option maxRecDepth 100000 in
theorem s_J0_isLatin1_aae02_0 {K : SK} {d : Nat} {c : ct} {Q : ct → Int → Prop} (si : Nat) (hsi : si < 4) (h : Q c 1) : WI K (d + 1) mJ0_isLatin1_aae02 0 [(3, ((6 + si : Nat) : Int))] [] c Q := by
  refine R_getsC (pc' := 3) dJ0_isLatin1_aae02_0 l_RJ0_38 rfl ?_
  refine R_eqD_if (tgt := 17) (pc' := 6) dJ0_isLatin1_aae02_3 (by decide) (by decide) (ir_l (by decide) (by decide)) rfl ?_
  refine R_aload_n3 (pc' := 7) dJ0_isLatin1_aae02_6 rfl rfl ?_
  refine R_strK (i := si) (pc' := 10) dJ0_isLatin1_aae02_7 l_RJ0_15 hsi rfl ?_
  refine R_neS_if (tgt := 17) (pc' := 13) dJ0_isLatin1_aae02_10 (by decide) rfl rfl ?_
  refine R_iconst (pc' := 14) dJ0_isLatin1_aae02_13 rfl ?_
  refine R_goto (tgt := 18) dJ0_isLatin1_aae02_14 (by decide) ?_
  exact Q_zret dJ0_isLatin1_aae02_18 rfl (Or.inr rfl) h
theorem e_J0_isLatin1_aae02 {K : SK} {d : Nat} {c : ct} {Q : ct → Int → Prop} (si : Nat) (hsi : si < 4) (h : WI K (d + 1) mJ0_isLatin1_aae02 0 [(3, ((6 + si : Nat) : Int))] [] c Q) : CI K (d + 1) mJ0_isLatin1_aae02 [(3, ((6 + si : Nat) : Int))] c Q := CM_ofS (by decide) (Nat.le_of_ble_eq_true rfl) _ rfl h
set_option maxRecDepth 100000 in
theorem s_J0_checkIndex_df160_0 {K : SK} {d : Nat} {c : ct} {Q : ct → Prop} (a0 : Int) (a1 : Int) (h : CI K d mJ3_checkIndex_8e157 [(0, a0), (0, a1), (4, 0)] c (fun c1 r2 => Q c1)) : WV K (d + 1) mJ0_checkIndex_df160 0 [(0, a0), (0, a1)] [] c Q := by
  refine R_iload_n (pc' := 1) dJ0_checkIndex_df160_0 rfl rfl ?_
  refine R_iload_n (pc' := 2) dJ0_checkIndex_df160_1 rfl rfl ?_
  refine R_getsF (pc' := 5) dJ0_checkIndex_df160_2 l_RJ0_1053 rfl ?_
  refine Q_callSI (vs := [(0, a0), (0, a1), (4, 0)]) (st := []) (pc' := 8) dJ0_checkIndex_df160_5 l_RJ0_1059 rfl (Nat.le_of_ble_eq_true rfl) rfl (Nat.zero_le _) (Nat.zero_le _) rfl ?_
  refine CI.mono h (fun c1 r2 h => ?_)
  refine R_pop (pc' := 9) dJ0_checkIndex_df160_8 (by simp) rfl ?_
  exact Q_ret dJ0_checkIndex_df160_9 rfl h
theorem e_J0_checkIndex_df160 {K : SK} {d : Nat} {c : ct} {Q : ct → Prop} (a0 : Int) (a1 : Int) (h : WV K (d + 1) mJ0_checkIndex_df160 0 [(0, a0), (0, a1)] [] c Q) : CV K (d + 1) mJ0_checkIndex_df160 [(0, a0), (0, a1)] c Q := CM_ofS (by decide) (Nat.le_of_ble_eq_true rfl) _ rfl h
set_option maxRecDepth 100000 in
theorem s_J1_charAt_3b067_0 {K : SK} {d : Nat} {c : ct} {Q : ct → Int → Prop} (a0 : Nat) (ha0 : a0 < 4) (a1 : Int) (h : CV K d mJ0_checkIndex_df160 [(0, a1), (0, ((strLen.getD a0 0 : Nat) : Int))] c (fun c1 => (0 ≤ a1 ∧ a1 < ((strLen.getD a0 0 : Nat) : Int)) ∧ (narrow .char (.int (Int32.ofInt (toC (bAnd ((strB.getD a0 []).getD (Int.toNat a1) 0) 255)))) = .int (Int32.ofInt (toC (bAnd ((strB.getD a0 []).getD (Int.toNat a1) 0) 255)))) ∧ Q c1 (toC (bAnd ((strB.getD a0 []).getD (Int.toNat a1) 0) 255)))) : WI K (d + 1) mJ1_charAt_3b067 0 [(3, ((10 + a0 : Nat) : Int)), (0, a1)] [] c Q := by
  refine R_iload_n (pc' := 1) dJ1_charAt_3b067_0 rfl rfl ?_
  refine R_aload_n3 (pc' := 2) dJ1_charAt_3b067_1 rfl rfl ?_
  refine R_strN (i := a0) (pc' := 3) dJ1_charAt_3b067_2 ha0 rfl ?_
  refine Q_callSV (vs := [(0, a1), (0, ((strLen.getD a0 0 : Nat) : Int))]) (st := []) (pc' := 6) dJ1_charAt_3b067_3 l_RJ1_9 rfl (Nat.le_of_ble_eq_true rfl) rfl (Nat.zero_le _) (Nat.zero_le _) rfl ?_
  refine CV.mono h (fun c1 h => ?_)
  refine R_aload_n3 (pc' := 7) dJ1_charAt_3b067_6 rfl rfl ?_
  refine R_iload_n (pc' := 8) dJ1_charAt_3b067_7 rfl rfl ?_
  have hs3 := h.1
  have h := h.2
  refine R_strB (i := a0) (pc' := 9) dJ1_charAt_3b067_8 ha0 hs3.1 hs3.2 rfl ?_
  refine R_sipush (pc' := 12) dJ1_charAt_3b067_9 (by decide) rfl ?_
  refine R_iand (pc' := 13) dJ1_charAt_3b067_12 rfl ?_
  refine R_i2c (pc' := 14) dJ1_charAt_3b067_13 rfl ?_
  exact Q_nret dJ1_charAt_3b067_14 rfl h.1 h.2
theorem e_J1_charAt_3b067 {K : SK} {d : Nat} {c : ct} {Q : ct → Int → Prop} (a0 : Nat) (ha0 : a0 < 4) (a1 : Int) (h : WI K (d + 1) mJ1_charAt_3b067 0 [(3, ((10 + a0 : Nat) : Int)), (0, a1)] [] c Q) : CI K (d + 1) mJ1_charAt_3b067 [(3, ((10 + a0 : Nat) : Int)), (0, a1)] c Q := CM_ofS (by decide) (Nat.le_of_ble_eq_true rfl) _ rfl h
set_option maxRecDepth 100000 in
theorem s_J3_checkIndex_8e157_0 {K : SK} {d : Nat} {c : ct} {Q : ct → Int → Prop} (a0 : Int) (a1 : Int) (h : (ir a0) ∧ (a0 < 0 → False) ∧ (¬ (a0 < 0) → (ir a0 ∧ ir a1) ∧ (a0 < a1 → Q c a0) ∧ (¬ (a0 < a1) → False))) : WI K (d + 1) mJ3_checkIndex_8e157 0 [(0, a0), (0, a1), (4, 0)] [] c Q := by
  refine R_iload_n (pc' := 1) dJ3_checkIndex_8e157_0 rfl rfl ?_
  have hs2 := h.1
  have h := h.2
  refine R_if_lt (tgt := 9) (pc' := 4) dJ3_checkIndex_8e157_1 (by decide) hs2  rfl (fun hc1 => ?_) (fun hc1 => ?_)
  · have h := h.1 hc1
    exact h.elim
  · have h := h.2 hc1
    refine R_iload_n (pc' := 5) dJ3_checkIndex_8e157_4 rfl rfl ?_
    refine R_iload_n (pc' := 6) dJ3_checkIndex_8e157_5 rfl rfl ?_
    have hs4 := h.1
    have h := h.2
    refine R_icmp_lt (tgt := 16) (pc' := 9) dJ3_checkIndex_8e157_6 (by decide) hs4.1 hs4.2 rfl (fun hc3 => ?_) (fun hc3 => ?_)
    · have h := h.1 hc3
      refine R_iload_n (pc' := 17) dJ3_checkIndex_8e157_16 rfl rfl ?_
      exact Q_iret dJ3_checkIndex_8e157_17 rfl h
    · have h := h.2 hc3
      exact h.elim
theorem e_J3_checkIndex_8e157 {K : SK} {d : Nat} {c : ct} {Q : ct → Int → Prop} (a0 : Int) (a1 : Int) (h : WI K (d + 1) mJ3_checkIndex_8e157 0 [(0, a0), (0, a1), (4, 0)] [] c Q) : CI K (d + 1) mJ3_checkIndex_8e157 [(0, a0), (0, a1), (4, 0)] c Q := CM_ofS (by decide) (Nat.le_of_ble_eq_true rfl) _ rfl h
