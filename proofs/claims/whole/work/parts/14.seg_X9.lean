set_option maxRecDepth 100000 in
theorem s_X9_in_0 {K : SK} {d : Nat} {c : ct} {Q : ct → Int → Prop} (a1 : Int) (a2 : Int) (a3 : Int) (h : (ir a1 ∧ ir a2) ∧ (a1 < a2 → Q c 0) ∧ (¬ (a1 < a2) → (ir a1 ∧ ir a3) ∧ (a3 < a1 → Q c 0) ∧ (¬ (a3 < a1) → Q c 1))) : WI K (d + 1) mX9_in 0 [(2, 108), (0, a1), (0, a2), (0, a3)] [] c Q := by
  refine R_iload_n (pc' := 1) dX9_in_0 rfl rfl ?_
  refine R_iload_n (pc' := 2) dX9_in_1 rfl rfl ?_
  have hs2 := h.1
  have h := h.2
  refine R_icmp_lt (tgt := 14) (pc' := 5) dX9_in_2 (by decide) hs2.1 hs2.2 rfl (fun hc1 => ?_) (fun hc1 => ?_)
  · have h := h.1 hc1
    refine R_iconst (pc' := 15) dX9_in_14 rfl ?_
    exact Q_zret dX9_in_15 rfl (Or.inl rfl) h
  · have h := h.2 hc1
    refine R_iload_n (pc' := 6) dX9_in_5 rfl rfl ?_
    refine R_iload_n (pc' := 7) dX9_in_6 rfl rfl ?_
    have hs4 := h.1
    have h := h.2
    refine R_icmp_gt (tgt := 14) (pc' := 10) dX9_in_7 (by decide) hs4.1 hs4.2 rfl (fun hc3 => ?_) (fun hc3 => ?_)
    · have h := h.1 hc3
      refine R_iconst (pc' := 15) dX9_in_14 rfl ?_
      exact Q_zret dX9_in_15 rfl (Or.inl rfl) h
    · have h := h.2 hc3
      refine R_iconst (pc' := 11) dX9_in_10 rfl ?_
      refine R_goto (tgt := 15) dX9_in_11 (by decide) ?_
      exact Q_zret dX9_in_15 rfl (Or.inr rfl) h
theorem e_X9_in {K : SK} {d : Nat} {c : ct} {Q : ct → Int → Prop} (a1 : Int) (a2 : Int) (a3 : Int) (h : WI K (d + 1) mX9_in 0 [(2, 108), (0, a1), (0, a2), (0, a3)] [] c Q) : CI K (d + 1) mX9_in [(2, 108), (0, a1), (0, a2), (0, a3)] c Q := CM_ofS (by decide) (Nat.le_of_ble_eq_true rfl) _ rfl h
set_option maxRecDepth 100000 in
theorem s_X9_has_0 {K : SK} {d : Nat} {c : ct} {Q : ct → Int → Prop} (a1 : Int) (a2 : Int) (h : ((bAnd (bShr a1 a2) 1) = 1 → Q c 1) ∧ (¬ ((bAnd (bShr a1 a2) 1) = 1) → ir (bAnd (bShr a1 a2) 1) ∧ Q c 0)) : WI K (d + 1) mX9_has 0 [(2, 108), (0, a1), (0, a2)] [] c Q := by
  refine R_iload_n (pc' := 1) dX9_has_0 rfl rfl ?_
  refine R_iload_n (pc' := 2) dX9_has_1 rfl rfl ?_
  refine R_ishr (pc' := 3) dX9_has_2 rfl ?_
  refine R_iconst (pc' := 4) dX9_has_3 rfl ?_
  refine R_iand (pc' := 5) dX9_has_4 rfl ?_
  refine R_iconst (pc' := 6) dX9_has_5 rfl ?_
  by_cases hc1 : (bAnd (bShr a1 a2) 1) = 1
  · have h := h.1 hc1
    refine R_neS_ic (tgt := 13) (pc' := 9) dX9_has_6 (by decide) hc1 rfl ?_
    refine R_iconst (pc' := 10) dX9_has_9 rfl ?_
    refine R_goto (tgt := 14) dX9_has_10 (by decide) ?_
    exact Q_zret dX9_has_14 rfl (Or.inr rfl) h
  · have h := h.2 hc1
    refine R_neD_ic (tgt := 13) (pc' := 9) dX9_has_6 (by decide) hc1 ⟨h.1, ir_l (by decide) (by decide)⟩ rfl ?_
    have h := h.2
    refine R_iconst (pc' := 14) dX9_has_13 rfl ?_
    exact Q_zret dX9_has_14 rfl (Or.inl rfl) h
theorem e_X9_has {K : SK} {d : Nat} {c : ct} {Q : ct → Int → Prop} (a1 : Int) (a2 : Int) (h : WI K (d + 1) mX9_has 0 [(2, 108), (0, a1), (0, a2)] [] c Q) : CI K (d + 1) mX9_has [(2, 108), (0, a1), (0, a2)] c Q := CM_ofS (by decide) (Nat.le_of_ble_eq_true rfl) _ rfl h
set_option maxRecDepth 100000 in
theorem s_X9_least_0 {K : SK} {d : Nat} {c : ct} {Q : ct → Int → Prop} (a1 : Int) (a2 : Int) (h : (ir a1 ∧ ir a2) ∧ (a2 ≤ a1 → Q c a2) ∧ (¬ (a2 ≤ a1) → Q c a1)) : WI K (d + 1) mX9_least 0 [(2, 108), (0, a1), (0, a2)] [] c Q := by
  refine R_iload_n (pc' := 1) dX9_least_0 rfl rfl ?_
  refine R_iload_n (pc' := 2) dX9_least_1 rfl rfl ?_
  have hs2 := h.1
  have h := h.2
  refine R_icmp_ge (tgt := 9) (pc' := 5) dX9_least_2 (by decide) hs2.1 hs2.2 rfl (fun hc1 => ?_) (fun hc1 => ?_)
  · have h := h.1 hc1
    refine R_iload_n (pc' := 10) dX9_least_9 rfl rfl ?_
    exact Q_iret dX9_least_10 rfl h
  · have h := h.2 hc1
    refine R_iload_n (pc' := 6) dX9_least_5 rfl rfl ?_
    refine R_goto (tgt := 10) dX9_least_6 (by decide) ?_
    exact Q_iret dX9_least_10 rfl h
theorem e_X9_least {K : SK} {d : Nat} {c : ct} {Q : ct → Int → Prop} (a1 : Int) (a2 : Int) (h : WI K (d + 1) mX9_least 0 [(2, 108), (0, a1), (0, a2)] [] c Q) : CI K (d + 1) mX9_least [(2, 108), (0, a1), (0, a2)] c Q := CM_ofS (by decide) (Nat.le_of_ble_eq_true rfl) _ rfl h
set_option maxRecDepth 100000 in
theorem s_X9_bits_0 {K : SK} {d : Nat} {c : ct} {Q : ct → Int → Prop} (a1 : Int) (h : WI K (d + 1) mX9_bits 4 [(2, 108), (0, a1), (0, 0), (0, 0)] [] c Q) : WI K (d + 1) mX9_bits 0 [(2, 108), (0, a1), (9, 0), (9, 0)] [] c Q := by
  refine R_iconst (pc' := 1) dX9_bits_0 rfl ?_
  refine R_istore_n (L' := [_, _, _, _]) (pc' := 2) dX9_bits_1 (by decide) rfl rfl rfl ?_
  refine R_iconst (pc' := 3) dX9_bits_2 rfl ?_
  refine R_istore_n (L' := [_, _, _, _]) (pc' := 4) dX9_bits_3 (by decide) rfl rfl rfl ?_
  exact WP_wk (wk_e (wk_e (wk_e (wk_e wk_n)))) h
set_option maxRecDepth 100000 in
theorem s_X9_bits_4 {K : SK} {d : Nat} {c : ct} {Q : ct → Int → Prop} (a1 : Int) (a2 : Int) (a3 : Int) (h : (ir a3) ∧ (6 ≤ a3 → Q c a2) ∧ (¬ (6 ≤ a3) → CI K d mX9_has [(2, 108), (0, a1), (0, a3)] c (fun c3 r4 => (r4 = 0 → WI K (d + 1) mX9_bits 4 [(2, 108), (0, a1), (0, (a2 + 0)), (0, (a3 + 1))] [] c3 Q) ∧ (¬ (r4 = 0) → ir r4 ∧ WI K (d + 1) mX9_bits 4 [(2, 108), (0, a1), (0, (a2 + 1)), (0, (a3 + 1))] [] c3 Q)))) : WI K (d + 1) mX9_bits 4 [(2, 108), (0, a1), (0, a2), (0, a3)] [] c Q := by
  refine R_iload_n (pc' := 5) dX9_bits_4 rfl rfl ?_
  refine R_bipush (pc' := 7) dX9_bits_5 (by decide) rfl ?_
  have hs2 := h.1
  have h := h.2
  refine R_icmp_ge (tgt := 33) (pc' := 10) dX9_bits_7 (by decide) hs2 (ir_l (by decide) (by decide)) rfl (fun hc1 => ?_) (fun hc1 => ?_)
  · have h := h.1 hc1
    refine R_iload_n (pc' := 34) dX9_bits_33 rfl rfl ?_
    exact Q_iret dX9_bits_34 rfl h
  · have h := h.2 hc1
    refine R_iload_n (pc' := 11) dX9_bits_10 rfl rfl ?_
    refine R_aload_n (pc' := 12) dX9_bits_11 rfl i108.1 rfl ?_
    refine R_iload_n (pc' := 13) dX9_bits_12 rfl rfl ?_
    refine R_iload_n (pc' := 14) dX9_bits_13 rfl rfl ?_
    refine Q_callVI (vs := [(0, a1), (0, a3)]) (st := [(0, a2)]) (pc' := 17) dX9_bits_14 l_RX9_248 i108 (by decide) rfl rfl (Nat.le_of_ble_eq_true rfl) rfl (Nat.zero_le _) (Nat.zero_le _) rfl ?_
    refine CI.mono h (fun c3 r4 h => ?_)
    by_cases hc5 : r4 = 0
    · have h := h.1 hc5
      refine R_eqS_if (tgt := 24) (pc' := 20) dX9_bits_17 (by decide) hc5 rfl ?_
      refine R_iconst (pc' := 25) dX9_bits_24 rfl ?_
      refine R_iadd (pc' := 26) dX9_bits_25 rfl ?_
      refine R_istore_n (L' := [_, _, _, _]) (pc' := 27) dX9_bits_26 (by decide) rfl rfl rfl ?_
      refine R_iinc (L' := [_, _, _, _]) (pc' := 30) dX9_bits_27 rfl (by decide) rfl rfl rfl ?_
      refine R_goto (tgt := 4) dX9_bits_30 (by decide) ?_
      exact WP_wk (wk_e (wk_e (wk_e (wk_e wk_n)))) h
    · have h := h.2 hc5
      refine R_eqD_if (tgt := 24) (pc' := 20) dX9_bits_17 (by decide) hc5 h.1 rfl ?_
      have h := h.2
      refine R_iconst (pc' := 21) dX9_bits_20 rfl ?_
      refine R_goto (tgt := 25) dX9_bits_21 (by decide) ?_
      refine R_iadd (pc' := 26) dX9_bits_25 rfl ?_
      refine R_istore_n (L' := [_, _, _, _]) (pc' := 27) dX9_bits_26 (by decide) rfl rfl rfl ?_
      refine R_iinc (L' := [_, _, _, _]) (pc' := 30) dX9_bits_27 rfl (by decide) rfl rfl rfl ?_
      refine R_goto (tgt := 4) dX9_bits_30 (by decide) ?_
      exact WP_wk (wk_e (wk_e (wk_e (wk_e wk_n)))) h
theorem e_X9_bits {K : SK} {d : Nat} {c : ct} {Q : ct → Int → Prop} (a1 : Int) (h : WI K (d + 1) mX9_bits 0 [(2, 108), (0, a1), (9, 0), (9, 0)] [] c Q) : CI K (d + 1) mX9_bits [(2, 108), (0, a1)] c Q := CM_ofS (by decide) (Nat.le_of_ble_eq_true rfl) _ rfl h
set_option maxRecDepth 100000 in
theorem s_X9_isGuest_0 {K : SK} {d : Nat} {c : ct} {Q : ct → Int → Prop} (a1 : Int) (h : CI K d mX9_in [(2, 108), (0, a1), (0, 0), (0, ((c 108 0) - 1))] c (fun c1 r2 => (r2 = 0 ∨ r2 = 1) ∧ Q c1 r2)) : WI K (d + 1) mX9_isGuest 0 [(2, 108), (0, a1)] [] c Q := by
  refine R_aload_n (pc' := 1) dX9_isGuest_0 rfl i108.1 rfl ?_
  refine R_iload_n (pc' := 2) dX9_isGuest_1 rfl rfl ?_
  refine R_iconst (pc' := 3) dX9_isGuest_2 rfl ?_
  refine R_aload_n (pc' := 4) dX9_isGuest_3 rfl i108.1 rfl ?_
  refine Q_getfi (J := 0) (pc' := 7) rfl dX9_isGuest_4 l_RX9_7 i108 fd9_0.1 fd9_0.2.1 fd9_0.2.2.1 rfl ?_
  refine R_iconst (pc' := 8) dX9_isGuest_7 rfl ?_
  refine R_isub (pc' := 9) dX9_isGuest_8 rfl ?_
  refine Q_callVI (vs := [(0, a1), (0, 0), (0, ((c 108 0) - 1))]) (st := []) (pc' := 12) dX9_isGuest_9 l_RX9_252 i108 (by decide) rfl rfl (Nat.le_of_ble_eq_true rfl) rfl (Nat.zero_le _) (Nat.zero_le _) rfl ?_
  refine CI.mono h (fun c1 r2 h => ?_)
  exact Q_zret dX9_isGuest_12 rfl h.1 h.2
theorem e_X9_isGuest {K : SK} {d : Nat} {c : ct} {Q : ct → Int → Prop} (a1 : Int) (h : WI K (d + 1) mX9_isGuest 0 [(2, 108), (0, a1)] [] c Q) : CI K (d + 1) mX9_isGuest [(2, 108), (0, a1)] c Q := CM_ofS (by decide) (Nat.le_of_ble_eq_true rfl) _ rfl h
set_option maxRecDepth 100000 in
theorem s_X9_isSeat_0 {K : SK} {d : Nat} {c : ct} {Q : ct → Int → Prop} (a1 : Int) (h : CI K d mX9_in [(2, 108), (0, a1), (0, 0), (0, 5)] c (fun c1 r2 => (r2 = 0 ∨ r2 = 1) ∧ Q c1 r2)) : WI K (d + 1) mX9_isSeat 0 [(2, 108), (0, a1)] [] c Q := by
  refine R_aload_n (pc' := 1) dX9_isSeat_0 rfl i108.1 rfl ?_
  refine R_iload_n (pc' := 2) dX9_isSeat_1 rfl rfl ?_
  refine R_iconst (pc' := 3) dX9_isSeat_2 rfl ?_
  refine R_iconst (pc' := 4) dX9_isSeat_3 rfl ?_
  refine Q_callVI (vs := [(0, a1), (0, 0), (0, 5)]) (st := []) (pc' := 7) dX9_isSeat_4 l_RX9_252 i108 (by decide) rfl rfl (Nat.le_of_ble_eq_true rfl) rfl (Nat.zero_le _) (Nat.zero_le _) rfl ?_
  refine CI.mono h (fun c1 r2 h => ?_)
  exact Q_zret dX9_isSeat_7 rfl h.1 h.2
theorem e_X9_isSeat {K : SK} {d : Nat} {c : ct} {Q : ct → Int → Prop} (a1 : Int) (h : WI K (d + 1) mX9_isSeat 0 [(2, 108), (0, a1)] [] c Q) : CI K (d + 1) mX9_isSeat [(2, 108), (0, a1)] c Q := CM_ofS (by decide) (Nat.le_of_ble_eq_true rfl) _ rfl h
set_option maxRecDepth 100000 in
theorem s_X9_isYears_0 {K : SK} {d : Nat} {c : ct} {Q : ct → Int → Prop} (a1 : Int) (h : CI K d mX9_in [(2, 108), (0, a1), (0, 0), (0, 60)] c (fun c1 r2 => (r2 = 0 ∨ r2 = 1) ∧ Q c1 r2)) : WI K (d + 1) mX9_isYears 0 [(2, 108), (0, a1)] [] c Q := by
  refine R_aload_n (pc' := 1) dX9_isYears_0 rfl i108.1 rfl ?_
  refine R_iload_n (pc' := 2) dX9_isYears_1 rfl rfl ?_
  refine R_iconst (pc' := 3) dX9_isYears_2 rfl ?_
  refine R_bipush (pc' := 5) dX9_isYears_3 (by decide) rfl ?_
  refine Q_callVI (vs := [(0, a1), (0, 0), (0, 60)]) (st := []) (pc' := 8) dX9_isYears_5 l_RX9_252 i108 (by decide) rfl rfl (Nat.le_of_ble_eq_true rfl) rfl (Nat.zero_le _) (Nat.zero_le _) rfl ?_
  refine CI.mono h (fun c1 r2 h => ?_)
  exact Q_zret dX9_isYears_8 rfl h.1 h.2
theorem e_X9_isYears {K : SK} {d : Nat} {c : ct} {Q : ct → Int → Prop} (a1 : Int) (h : WI K (d + 1) mX9_isYears 0 [(2, 108), (0, a1)] [] c Q) : CI K (d + 1) mX9_isYears [(2, 108), (0, a1)] c Q := CM_ofS (by decide) (Nat.le_of_ble_eq_true rfl) _ rfl h
set_option maxRecDepth 100000 in
theorem s_X9_whoSits_0 {K : SK} {d : Nat} {c : ct} {Q : ct → Int → Prop} (a1 : Int) (h : WI K (d + 1) mX9_whoSits 2 [(2, 108), (0, a1), (0, 0)] [] c Q) : WI K (d + 1) mX9_whoSits 0 [(2, 108), (0, a1), (9, 0)] [] c Q := by
  refine R_iconst (pc' := 1) dX9_whoSits_0 rfl ?_
  refine R_istore_n (L' := [_, _, _]) (pc' := 2) dX9_whoSits_1 (by decide) rfl rfl rfl ?_
  exact WP_wk (wk_e (wk_e (wk_e wk_n))) h
set_option maxRecDepth 100000 in
theorem s_X9_whoSits_2 {K : SK} {d : Nat} {c : ct} {Q : ct → Int → Prop} (a1 : Int) (a2 : Int) (h : (ir a2 ∧ ir (c 108 0)) ∧ ((c 108 0) ≤ a2 → Q c (-5)) ∧ (¬ ((c 108 0) ≤ a2) → ((0 ≤ a2 ∧ a2 < 6)) ∧ ((c 111 a2) = a1 → Q c a2) ∧ (¬ ((c 111 a2) = a1) → (ir (c 111 a2) ∧ ir a1) ∧ WI K (d + 1) mX9_whoSits 2 [(2, 108), (0, a1), (0, (a2 + 1))] [] c Q))) : WI K (d + 1) mX9_whoSits 2 [(2, 108), (0, a1), (0, a2)] [] c Q := by
  refine R_iload_n (pc' := 3) dX9_whoSits_2 rfl rfl ?_
  refine R_aload_n (pc' := 4) dX9_whoSits_3 rfl i108.1 rfl ?_
  refine Q_getfi (J := 0) (pc' := 7) rfl dX9_whoSits_4 l_RX9_7 i108 fd9_0.1 fd9_0.2.1 fd9_0.2.2.1 rfl ?_
  have hs2 := h.1
  have h := h.2
  refine R_icmp_ge (tgt := 28) (pc' := 10) dX9_whoSits_7 (by decide) hs2.1 hs2.2 rfl (fun hc1 => ?_) (fun hc1 => ?_)
  · have h := h.1 hc1
    refine R_bipush (pc' := 30) dX9_whoSits_28 (by decide) rfl ?_
    exact Q_iret dX9_whoSits_30 rfl h
  · have h := h.2 hc1
    refine R_aload_n (pc' := 11) dX9_whoSits_10 rfl i108.1 rfl ?_
    refine Q_getfr (v := 111) (J := 7) (pc' := 14) rfl dX9_whoSits_11 l_RX9_32 i108 fd9_7.1 fd9_7.2.1 fd9_7.2.2.1 fd9_7.2.2.2 f108_7 rfl ?_
    refine R_iload_n (pc' := 15) dX9_whoSits_14 rfl rfl ?_
    have hs3 := h.1
    have h := h.2
    refine Q_iaload (N := 6) (pc' := 16) rfl dX9_whoSits_15 i111 (by decide) hs3 rfl ?_
    refine R_iload_n (pc' := 17) dX9_whoSits_16 rfl rfl ?_
    by_cases hc4 : (c 111 a2) = a1
    · have h := h.1 hc4
      refine R_neS_ic (tgt := 22) (pc' := 20) dX9_whoSits_17 (by decide) hc4 rfl ?_
      refine R_iload_n (pc' := 21) dX9_whoSits_20 rfl rfl ?_
      exact Q_iret dX9_whoSits_21 rfl h
    · have h := h.2 hc4
      refine R_neD_ic (tgt := 22) (pc' := 20) dX9_whoSits_17 (by decide) hc4 h.1 rfl ?_
      have h := h.2
      refine R_iinc (L' := [_, _, _]) (pc' := 25) dX9_whoSits_22 rfl (by decide) rfl rfl rfl ?_
      refine R_goto (tgt := 2) dX9_whoSits_25 (by decide) ?_
      exact WP_wk (wk_e (wk_e (wk_e wk_n))) h
theorem e_X9_whoSits {K : SK} {d : Nat} {c : ct} {Q : ct → Int → Prop} (a1 : Int) (h : WI K (d + 1) mX9_whoSits 0 [(2, 108), (0, a1), (9, 0)] [] c Q) : CI K (d + 1) mX9_whoSits [(2, 108), (0, a1)] c Q := CM_ofS (by decide) (Nat.le_of_ble_eq_true rfl) _ rfl h
set_option maxRecDepth 100000 in
theorem s_X9_guest_0 {K : SK} {d : Nat} {c : ct} {Q : ct → Int → Prop} (a1 : Int) (a2 : Int) (h : CI K d mX9_in [(2, 108), (0, a1), (0, 0), (0, 6)] c (fun c1 r2 => (r2 = 0 → Q c1 (-1)) ∧ (¬ (r2 = 0) → ir r2 ∧ CI K d mX9_in [(2, 108), (0, a2), (0, 0), (0, 9)] c1 (fun c4 r5 => (r5 = 0 → Q c4 (-2)) ∧ (¬ (r5 = 0) → ir r5 ∧ ((c4 108 0) = 6 → Q c4 (-4)) ∧ (¬ ((c4 108 0) = 6) → ir (c4 108 0) ∧ WI K (d + 1) mX9_guest 41 [(2, 108), (0, a1), (0, a2), (0, 0), (9, 0)] [] c4 Q)))))) : WI K (d + 1) mX9_guest 0 [(2, 108), (0, a1), (0, a2), (9, 0), (9, 0)] [] c Q := by
  refine R_aload_n (pc' := 1) dX9_guest_0 rfl i108.1 rfl ?_
  refine R_iload_n (pc' := 2) dX9_guest_1 rfl rfl ?_
  refine R_iconst (pc' := 3) dX9_guest_2 rfl ?_
  refine R_bipush (pc' := 5) dX9_guest_3 (by decide) rfl ?_
  refine Q_callVI (vs := [(0, a1), (0, 0), (0, 6)]) (st := []) (pc' := 8) dX9_guest_5 l_RX9_252 i108 (by decide) rfl rfl (Nat.le_of_ble_eq_true rfl) rfl (Nat.zero_le _) (Nat.zero_le _) rfl ?_
  refine CI.mono h (fun c1 r2 h => ?_)
  by_cases hc3 : r2 = 0
  · have h := h.1 hc3
    refine R_neS_if (tgt := 13) (pc' := 11) dX9_guest_8 (by decide) hc3 rfl ?_
    refine R_iconst (pc' := 12) dX9_guest_11 rfl ?_
    exact Q_iret dX9_guest_12 rfl h
  · have h := h.2 hc3
    refine R_neD_if (tgt := 13) (pc' := 11) dX9_guest_8 (by decide) hc3 h.1 rfl ?_
    have h := h.2
    refine R_aload_n (pc' := 14) dX9_guest_13 rfl i108.1 rfl ?_
    refine R_iload_n (pc' := 15) dX9_guest_14 rfl rfl ?_
    refine R_iconst (pc' := 16) dX9_guest_15 rfl ?_
    refine R_bipush (pc' := 18) dX9_guest_16 (by decide) rfl ?_
    refine Q_callVI (vs := [(0, a2), (0, 0), (0, 9)]) (st := []) (pc' := 21) dX9_guest_18 l_RX9_252 i108 (by decide) rfl rfl (Nat.le_of_ble_eq_true rfl) rfl (Nat.zero_le _) (Nat.zero_le _) rfl ?_
    refine CI.mono h (fun c4 r5 h => ?_)
    by_cases hc6 : r5 = 0
    · have h := h.1 hc6
      refine R_neS_if (tgt := 27) (pc' := 24) dX9_guest_21 (by decide) hc6 rfl ?_
      refine R_bipush (pc' := 26) dX9_guest_24 (by decide) rfl ?_
      exact Q_iret dX9_guest_26 rfl h
    · have h := h.2 hc6
      refine R_neD_if (tgt := 27) (pc' := 24) dX9_guest_21 (by decide) hc6 h.1 rfl ?_
      have h := h.2
      refine R_aload_n (pc' := 28) dX9_guest_27 rfl i108.1 rfl ?_
      refine Q_getfi (J := 0) (pc' := 31) rfl dX9_guest_28 l_RX9_7 i108 fd9_0.1 fd9_0.2.1 fd9_0.2.2.1 rfl ?_
      refine R_bipush (pc' := 33) dX9_guest_31 (by decide) rfl ?_
      by_cases hc7 : (c4 108 0) = 6
      · have h := h.1 hc7
        refine R_neS_ic (tgt := 39) (pc' := 36) dX9_guest_33 (by decide) hc7 rfl ?_
        refine R_bipush (pc' := 38) dX9_guest_36 (by decide) rfl ?_
        exact Q_iret dX9_guest_38 rfl h
      · have h := h.2 hc7
        refine R_neD_ic (tgt := 39) (pc' := 36) dX9_guest_33 (by decide) hc7 ⟨h.1, ir_l (by decide) (by decide)⟩ rfl ?_
        have h := h.2
        refine R_iconst (pc' := 40) dX9_guest_39 rfl ?_
        refine R_istore_n (L' := [_, _, _, _, _]) (pc' := 41) dX9_guest_40 (by decide) rfl rfl rfl ?_
        exact WP_wk (wk_e (wk_e (wk_e (wk_e (wk_u wk_n))))) h
set_option maxRecDepth 100000 in
theorem s_X9_guest_41 {K : SK} {d : Nat} {c : ct} {Q : ct → Int → Prop} (a1 : Int) (a2 : Int) (a3 : Int) (h : CI K d mX9_whoSits [(2, 108), (0, a3)] c (fun c1 r2 => (ir r2) ∧ (r2 < 0 → ((0 ≤ (c1 108 0) ∧ (c1 108 0) < 6)) ∧ ∀ c5 : ct, c5 = up2 c1 109 (c1 108 0) a1 → ((0 ≤ (c5 108 0) ∧ (c5 108 0) < 6)) ∧ ∀ c7 : ct, c7 = up2 c5 110 (c5 108 0) a2 → ((0 ≤ (c7 108 0) ∧ (c7 108 0) < 6)) ∧ ∀ c9 : ct, c9 = up2 c7 111 (c7 108 0) a3 → ((0 ≤ (c9 108 0) ∧ (c9 108 0) < 6)) ∧ ∀ c11 : ct, c11 = up2 c9 112 (c9 108 0) 0 → ∀ c13 : ct, c13 = up2 c11 108 1 (bAnd (c11 108 1) (bXor (bShl 1 (c11 108 0)) (-1))) → ∀ c14 : ct, c14 = up2 c13 108 2 (bAnd (c13 108 2) (bXor (bShl 1 (c13 108 0)) (-1))) → WI K (d + 1) mX9_guest 132 [(2, 108), (9, 0), (9, 0), (9, 0), (0, 0)] [] c14 Q) ∧ (¬ (r2 < 0) → WI K (d + 1) mX9_guest 41 [(2, 108), (0, a1), (0, a2), (0, (a3 + 1)), (9, 0)] [] c1 Q))) : WI K (d + 1) mX9_guest 41 [(2, 108), (0, a1), (0, a2), (0, a3), (9, 0)] [] c Q := by
  refine R_aload_n (pc' := 42) dX9_guest_41 rfl i108.1 rfl ?_
  refine R_iload_n (pc' := 43) dX9_guest_42 rfl rfl ?_
  refine Q_callVI (vs := [(0, a3)]) (st := []) (pc' := 46) dX9_guest_43 l_RX9_256 i108 (by decide) rfl rfl (Nat.le_of_ble_eq_true rfl) rfl (Nat.zero_le _) (Nat.zero_le _) rfl ?_
  refine CI.mono h (fun c1 r2 h => ?_)
  have hs4 := h.1
  have h := h.2
  refine R_if_lt (tgt := 55) (pc' := 49) dX9_guest_46 (by decide) hs4  rfl (fun hc3 => ?_) (fun hc3 => ?_)
  · have h := h.1 hc3
    refine R_aload_n (pc' := 56) dX9_guest_55 rfl i108.1 rfl ?_
    refine Q_getfr (v := 109) (J := 5) (pc' := 59) rfl dX9_guest_56 l_RX9_25 i108 fd9_5.1 fd9_5.2.1 fd9_5.2.2.1 fd9_5.2.2.2 f108_5 rfl ?_
    refine R_aload_n (pc' := 60) dX9_guest_59 rfl i108.1 rfl ?_
    refine Q_getfi (J := 0) (pc' := 63) rfl dX9_guest_60 l_RX9_7 i108 fd9_0.1 fd9_0.2.1 fd9_0.2.2.1 rfl ?_
    refine R_iload_n (pc' := 64) dX9_guest_63 rfl rfl ?_
    have hs6 := h.1
    have h := h.2
    refine Q_iastore (N := 6) (pc' := 65) rfl dX9_guest_64 i109 (by decide) hs6  rfl (fun c5 hc5 => ?_)
    have h := h c5 hc5
    refine R_aload_n (pc' := 66) dX9_guest_65 rfl i108.1 rfl ?_
    refine Q_getfr (v := 110) (J := 6) (pc' := 69) rfl dX9_guest_66 l_RX9_29 i108 fd9_6.1 fd9_6.2.1 fd9_6.2.2.1 fd9_6.2.2.2 f108_6 rfl ?_
    refine R_aload_n (pc' := 70) dX9_guest_69 rfl i108.1 rfl ?_
    refine Q_getfi (J := 0) (pc' := 73) rfl dX9_guest_70 l_RX9_7 i108 fd9_0.1 fd9_0.2.1 fd9_0.2.2.1 rfl ?_
    refine R_iload_n (pc' := 74) dX9_guest_73 rfl rfl ?_
    have hs8 := h.1
    have h := h.2
    refine Q_iastore (N := 6) (pc' := 75) rfl dX9_guest_74 i110 (by decide) hs8  rfl (fun c7 hc7 => ?_)
    have h := h c7 hc7
    refine R_aload_n (pc' := 76) dX9_guest_75 rfl i108.1 rfl ?_
    refine Q_getfr (v := 111) (J := 7) (pc' := 79) rfl dX9_guest_76 l_RX9_32 i108 fd9_7.1 fd9_7.2.1 fd9_7.2.2.1 fd9_7.2.2.2 f108_7 rfl ?_
    refine R_aload_n (pc' := 80) dX9_guest_79 rfl i108.1 rfl ?_
    refine Q_getfi (J := 0) (pc' := 83) rfl dX9_guest_80 l_RX9_7 i108 fd9_0.1 fd9_0.2.1 fd9_0.2.2.1 rfl ?_
    refine R_iload_n (pc' := 84) dX9_guest_83 rfl rfl ?_
    have hs10 := h.1
    have h := h.2
    refine Q_iastore (N := 6) (pc' := 85) rfl dX9_guest_84 i111 (by decide) hs10  rfl (fun c9 hc9 => ?_)
    have h := h c9 hc9
    refine R_aload_n (pc' := 86) dX9_guest_85 rfl i108.1 rfl ?_
    refine Q_getfr (v := 112) (J := 8) (pc' := 89) rfl dX9_guest_86 l_RX9_35 i108 fd9_8.1 fd9_8.2.1 fd9_8.2.2.1 fd9_8.2.2.2 f108_8 rfl ?_
    refine R_aload_n (pc' := 90) dX9_guest_89 rfl i108.1 rfl ?_
    refine Q_getfi (J := 0) (pc' := 93) rfl dX9_guest_90 l_RX9_7 i108 fd9_0.1 fd9_0.2.1 fd9_0.2.2.1 rfl ?_
    refine R_iconst (pc' := 94) dX9_guest_93 rfl ?_
    have hs12 := h.1
    have h := h.2
    refine Q_iastore (N := 6) (pc' := 95) rfl dX9_guest_94 i112 (by decide) hs12  rfl (fun c11 hc11 => ?_)
    have h := h c11 hc11
    refine R_aload_n (pc' := 96) dX9_guest_95 rfl i108.1 rfl ?_
    refine R_dup (pc' := 97) dX9_guest_96 (by simp) rfl ?_
    refine Q_getfi (J := 1) (pc' := 100) rfl dX9_guest_97 l_RX9_13 i108 fd9_1.1 fd9_1.2.1 fd9_1.2.2.1 rfl ?_
    refine R_iconst (pc' := 101) dX9_guest_100 rfl ?_
    refine R_aload_n (pc' := 102) dX9_guest_101 rfl i108.1 rfl ?_
    refine Q_getfi (J := 0) (pc' := 105) rfl dX9_guest_102 l_RX9_7 i108 fd9_0.1 fd9_0.2.1 fd9_0.2.2.1 rfl ?_
    refine R_ishl (pc' := 106) dX9_guest_105 rfl ?_
    refine R_iconst (pc' := 107) dX9_guest_106 rfl ?_
    refine R_ixor (pc' := 108) dX9_guest_107 rfl ?_
    refine R_iand (pc' := 109) dX9_guest_108 rfl ?_
    refine Q_putfi (J := 1) (pc' := 112) rfl dX9_guest_109 l_RX9_13 i108 fd9_1.1 fd9_1.2.1 fd9_1.2.2.2.1 fd9_1.2.2.2.2 rfl (fun c13 hc13 => ?_)
    have h := h c13 hc13
    refine R_aload_n (pc' := 113) dX9_guest_112 rfl i108.1 rfl ?_
    refine R_dup (pc' := 114) dX9_guest_113 (by simp) rfl ?_
    refine Q_getfi (J := 2) (pc' := 117) rfl dX9_guest_114 l_RX9_16 i108 fd9_2.1 fd9_2.2.1 fd9_2.2.2.1 rfl ?_
    refine R_iconst (pc' := 118) dX9_guest_117 rfl ?_
    refine R_aload_n (pc' := 119) dX9_guest_118 rfl i108.1 rfl ?_
    refine Q_getfi (J := 0) (pc' := 122) rfl dX9_guest_119 l_RX9_7 i108 fd9_0.1 fd9_0.2.1 fd9_0.2.2.1 rfl ?_
    refine R_ishl (pc' := 123) dX9_guest_122 rfl ?_
    refine R_iconst (pc' := 124) dX9_guest_123 rfl ?_
    refine R_ixor (pc' := 125) dX9_guest_124 rfl ?_
    refine R_iand (pc' := 126) dX9_guest_125 rfl ?_
    refine Q_putfi (J := 2) (pc' := 129) rfl dX9_guest_126 l_RX9_16 i108 fd9_2.1 fd9_2.2.1 fd9_2.2.2.2.1 fd9_2.2.2.2.2 rfl (fun c14 hc14 => ?_)
    have h := h c14 hc14
    refine R_iconst (pc' := 130) dX9_guest_129 rfl ?_
    refine R_istore (L' := [_, _, _, _, _]) (pc' := 132) dX9_guest_130 (by decide) rfl rfl rfl ?_
    exact WP_wk (wk_e (wk_u (wk_u (wk_u (wk_e wk_n))))) h
  · have h := h.2 hc3
    refine R_iinc (L' := [_, _, _, _, _]) (pc' := 52) dX9_guest_49 rfl (by decide) rfl rfl rfl ?_
    refine R_goto (tgt := 41) dX9_guest_52 (by decide) ?_
    exact WP_wk (wk_e (wk_e (wk_e (wk_e (wk_u wk_n))))) h
set_option maxRecDepth 100000 in
theorem s_X9_guest_132 {K : SK} {d : Nat} {c : ct} {Q : ct → Int → Prop} (a4 : Int) (h : (ir a4) ∧ (4 ≤ a4 → ∀ c3 : ct, c3 = up2 c 108 0 ((c 108 0) + 1) → Q c3 ((c3 108 0) - 1)) ∧ (¬ (4 ≤ a4) → ((0 ≤ ((4 * (c 108 0)) + a4) ∧ ((4 * (c 108 0)) + a4) < 24)) ∧ ∀ c4 : ct, c4 = up2 c 113 ((4 * (c 108 0)) + a4) 0 → WI K (d + 1) mX9_guest 132 [(2, 108), (9, 0), (9, 0), (9, 0), (0, (a4 + 1))] [] c4 Q)) : WI K (d + 1) mX9_guest 132 [(2, 108), (9, 0), (9, 0), (9, 0), (0, a4)] [] c Q := by
  refine R_iload (pc' := 134) dX9_guest_132 rfl rfl ?_
  refine R_iconst (pc' := 135) dX9_guest_134 rfl ?_
  have hs2 := h.1
  have h := h.2
  refine R_icmp_ge (tgt := 159) (pc' := 138) dX9_guest_135 (by decide) hs2 (ir_l (by decide) (by decide)) rfl (fun hc1 => ?_) (fun hc1 => ?_)
  · have h := h.1 hc1
    refine R_aload_n (pc' := 160) dX9_guest_159 rfl i108.1 rfl ?_
    refine R_dup (pc' := 161) dX9_guest_160 (by simp) rfl ?_
    refine Q_getfi (J := 0) (pc' := 164) rfl dX9_guest_161 l_RX9_7 i108 fd9_0.1 fd9_0.2.1 fd9_0.2.2.1 rfl ?_
    refine R_iconst (pc' := 165) dX9_guest_164 rfl ?_
    refine R_iadd (pc' := 166) dX9_guest_165 rfl ?_
    refine Q_putfi (J := 0) (pc' := 169) rfl dX9_guest_166 l_RX9_7 i108 fd9_0.1 fd9_0.2.1 fd9_0.2.2.2.1 fd9_0.2.2.2.2 rfl (fun c3 hc3 => ?_)
    have h := h c3 hc3
    refine R_aload_n (pc' := 170) dX9_guest_169 rfl i108.1 rfl ?_
    refine Q_getfi (J := 0) (pc' := 173) rfl dX9_guest_170 l_RX9_7 i108 fd9_0.1 fd9_0.2.1 fd9_0.2.2.1 rfl ?_
    refine R_iconst (pc' := 174) dX9_guest_173 rfl ?_
    refine R_isub (pc' := 175) dX9_guest_174 rfl ?_
    exact Q_iret dX9_guest_175 rfl h
  · have h := h.2 hc1
    refine R_aload_n (pc' := 139) dX9_guest_138 rfl i108.1 rfl ?_
    refine Q_getfr (v := 113) (J := 9) (pc' := 142) rfl dX9_guest_139 l_RX9_38 i108 fd9_9.1 fd9_9.2.1 fd9_9.2.2.1 fd9_9.2.2.2 f108_9 rfl ?_
    refine R_iconst (pc' := 143) dX9_guest_142 rfl ?_
    refine R_aload_n (pc' := 144) dX9_guest_143 rfl i108.1 rfl ?_
    refine Q_getfi (J := 0) (pc' := 147) rfl dX9_guest_144 l_RX9_7 i108 fd9_0.1 fd9_0.2.1 fd9_0.2.2.1 rfl ?_
    refine R_imul (pc' := 148) dX9_guest_147 rfl ?_
    refine R_iload (pc' := 150) dX9_guest_148 rfl rfl ?_
    refine R_iadd (pc' := 151) dX9_guest_150 rfl ?_
    refine R_iconst (pc' := 152) dX9_guest_151 rfl ?_
    have hs5 := h.1
    have h := h.2
    refine Q_iastore (N := 24) (pc' := 153) rfl dX9_guest_152 i113 (by decide) hs5  rfl (fun c4 hc4 => ?_)
    have h := h c4 hc4
    refine R_iinc (L' := [_, _, _, _, _]) (pc' := 156) dX9_guest_153 rfl (by decide) rfl rfl rfl ?_
    refine R_goto (tgt := 132) dX9_guest_156 (by decide) ?_
    exact WP_wk (wk_e (wk_u (wk_u (wk_u (wk_e wk_n))))) h
theorem e_X9_guest {K : SK} {d : Nat} {c : ct} {Q : ct → Int → Prop} (a1 : Int) (a2 : Int) (h : WI K (d + 1) mX9_guest 0 [(2, 108), (0, a1), (0, a2), (9, 0), (9, 0)] [] c Q) : CI K (d + 1) mX9_guest [(2, 108), (0, a1), (0, a2)] c Q := CM_ofS (by decide) (Nat.le_of_ble_eq_true rfl) _ rfl h
set_option maxRecDepth 100000 in
theorem s_X9_goes_0 {K : SK} {d : Nat} {c : ct} {Q : ct → Prop} (a1 : Int) (a2 : Int) (h : (a2 = 0 → ∀ c2 : ct, c2 = up2 c 108 1 (bAnd (c 108 1) (bXor (bShl 1 a1) (-1))) → Q c2) ∧ (¬ (a2 = 0) → ir a2 ∧ ∀ c3 : ct, c3 = up2 c 108 1 (bOr (c 108 1) (bShl 1 a1)) → Q c3)) : WV K (d + 1) mX9_goes 0 [(2, 108), (0, a1), (0, a2)] [] c Q := by
  refine R_aload_n (pc' := 1) dX9_goes_0 rfl i108.1 rfl ?_
  refine R_iload_n (pc' := 2) dX9_goes_1 rfl rfl ?_
  by_cases hc1 : a2 = 0
  · have h := h.1 hc1
    refine R_eqS_if (tgt := 16) (pc' := 5) dX9_goes_2 (by decide) hc1 rfl ?_
    refine R_aload_n (pc' := 17) dX9_goes_16 rfl i108.1 rfl ?_
    refine Q_getfi (J := 1) (pc' := 20) rfl dX9_goes_17 l_RX9_13 i108 fd9_1.1 fd9_1.2.1 fd9_1.2.2.1 rfl ?_
    refine R_iconst (pc' := 21) dX9_goes_20 rfl ?_
    refine R_iload_n (pc' := 22) dX9_goes_21 rfl rfl ?_
    refine R_ishl (pc' := 23) dX9_goes_22 rfl ?_
    refine R_iconst (pc' := 24) dX9_goes_23 rfl ?_
    refine R_ixor (pc' := 25) dX9_goes_24 rfl ?_
    refine R_iand (pc' := 26) dX9_goes_25 rfl ?_
    refine Q_putfi (J := 1) (pc' := 29) rfl dX9_goes_26 l_RX9_13 i108 fd9_1.1 fd9_1.2.1 fd9_1.2.2.2.1 fd9_1.2.2.2.2 rfl (fun c2 hc2 => ?_)
    have h := h c2 hc2
    exact Q_ret dX9_goes_29 rfl h
  · have h := h.2 hc1
    refine R_eqD_if (tgt := 16) (pc' := 5) dX9_goes_2 (by decide) hc1 h.1 rfl ?_
    have h := h.2
    refine R_aload_n (pc' := 6) dX9_goes_5 rfl i108.1 rfl ?_
    refine Q_getfi (J := 1) (pc' := 9) rfl dX9_goes_6 l_RX9_13 i108 fd9_1.1 fd9_1.2.1 fd9_1.2.2.1 rfl ?_
    refine R_iconst (pc' := 10) dX9_goes_9 rfl ?_
    refine R_iload_n (pc' := 11) dX9_goes_10 rfl rfl ?_
    refine R_ishl (pc' := 12) dX9_goes_11 rfl ?_
    refine R_ior (pc' := 13) dX9_goes_12 rfl ?_
    refine R_goto (tgt := 26) dX9_goes_13 (by decide) ?_
    refine Q_putfi (J := 1) (pc' := 29) rfl dX9_goes_26 l_RX9_13 i108 fd9_1.1 fd9_1.2.1 fd9_1.2.2.2.1 fd9_1.2.2.2.2 rfl (fun c3 hc3 => ?_)
    have h := h c3 hc3
    exact Q_ret dX9_goes_29 rfl h
theorem e_X9_goes {K : SK} {d : Nat} {c : ct} {Q : ct → Prop} (a1 : Int) (a2 : Int) (h : WV K (d + 1) mX9_goes 0 [(2, 108), (0, a1), (0, a2)] [] c Q) : CV K (d + 1) mX9_goes [(2, 108), (0, a1), (0, a2)] c Q := CM_ofS (by decide) (Nat.le_of_ble_eq_true rfl) _ rfl h
set_option maxRecDepth 100000 in
theorem s_X9_leave_0 {K : SK} {d : Nat} {c : ct} {Q : ct → Int → Prop} (a1 : Int) (a2 : Int) (h : CI K d mX9_isGuest [(2, 108), (0, a1)] c (fun c1 r2 => (r2 = 0 → Q c1 (-1)) ∧ (¬ (r2 = 0) → ir r2 ∧ CI K d mX9_has [(2, 108), (0, (c1 108 1)), (0, a1)] c1 (fun c4 r5 => (r5 = 0 → CV K d mX9_goes [(2, 108), (0, a1), (0, a2)] c4 (fun c7 => Q c7 0)) ∧ (¬ (r5 = 0) → ir r5 ∧ CV K d mX9_goes [(2, 108), (0, a1), (0, a2)] c4 (fun c9 => Q c9 1)))))) : WI K (d + 1) mX9_leave 0 [(2, 108), (0, a1), (0, a2), (9, 0)] [] c Q := by
  refine R_aload_n (pc' := 1) dX9_leave_0 rfl i108.1 rfl ?_
  refine R_iload_n (pc' := 2) dX9_leave_1 rfl rfl ?_
  refine Q_callVI (vs := [(0, a1)]) (st := []) (pc' := 5) dX9_leave_2 l_RX9_260 i108 (by decide) rfl rfl (Nat.le_of_ble_eq_true rfl) rfl (Nat.zero_le _) (Nat.zero_le _) rfl ?_
  refine CI.mono h (fun c1 r2 h => ?_)
  by_cases hc3 : r2 = 0
  · have h := h.1 hc3
    refine R_neS_if (tgt := 10) (pc' := 8) dX9_leave_5 (by decide) hc3 rfl ?_
    refine R_iconst (pc' := 9) dX9_leave_8 rfl ?_
    exact Q_iret dX9_leave_9 rfl h
  · have h := h.2 hc3
    refine R_neD_if (tgt := 10) (pc' := 8) dX9_leave_5 (by decide) hc3 h.1 rfl ?_
    have h := h.2
    refine R_aload_n (pc' := 11) dX9_leave_10 rfl i108.1 rfl ?_
    refine R_aload_n (pc' := 12) dX9_leave_11 rfl i108.1 rfl ?_
    refine Q_getfi (J := 1) (pc' := 15) rfl dX9_leave_12 l_RX9_13 i108 fd9_1.1 fd9_1.2.1 fd9_1.2.2.1 rfl ?_
    refine R_iload_n (pc' := 16) dX9_leave_15 rfl rfl ?_
    refine Q_callVI (vs := [(0, (c1 108 1)), (0, a1)]) (st := []) (pc' := 19) dX9_leave_16 l_RX9_248 i108 (by decide) rfl rfl (Nat.le_of_ble_eq_true rfl) rfl (Nat.zero_le _) (Nat.zero_le _) rfl ?_
    refine CI.mono h (fun c4 r5 h => ?_)
    by_cases hc6 : r5 = 0
    · have h := h.1 hc6
      refine R_eqS_if (tgt := 26) (pc' := 22) dX9_leave_19 (by decide) hc6 rfl ?_
      refine R_iconst (pc' := 27) dX9_leave_26 rfl ?_
      refine R_istore_n (L' := [_, _, _, _]) (pc' := 28) dX9_leave_27 (by decide) rfl rfl rfl ?_
      refine R_aload_n (pc' := 29) dX9_leave_28 rfl i108.1 rfl ?_
      refine R_iload_n (pc' := 30) dX9_leave_29 rfl rfl ?_
      refine R_iload_n (pc' := 31) dX9_leave_30 rfl rfl ?_
      refine Q_callVV (vs := [(0, a1), (0, a2)]) (st := []) (pc' := 34) dX9_leave_31 l_RX9_264 i108 (by decide) rfl rfl (Nat.le_of_ble_eq_true rfl) rfl (Nat.zero_le _) (Nat.zero_le _) rfl ?_
      refine CV.mono h (fun c7 h => ?_)
      refine R_iload_n (pc' := 35) dX9_leave_34 rfl rfl ?_
      exact Q_iret dX9_leave_35 rfl h
    · have h := h.2 hc6
      refine R_eqD_if (tgt := 26) (pc' := 22) dX9_leave_19 (by decide) hc6 h.1 rfl ?_
      have h := h.2
      refine R_iconst (pc' := 23) dX9_leave_22 rfl ?_
      refine R_goto (tgt := 27) dX9_leave_23 (by decide) ?_
      refine R_istore_n (L' := [_, _, _, _]) (pc' := 28) dX9_leave_27 (by decide) rfl rfl rfl ?_
      refine R_aload_n (pc' := 29) dX9_leave_28 rfl i108.1 rfl ?_
      refine R_iload_n (pc' := 30) dX9_leave_29 rfl rfl ?_
      refine R_iload_n (pc' := 31) dX9_leave_30 rfl rfl ?_
      refine Q_callVV (vs := [(0, a1), (0, a2)]) (st := []) (pc' := 34) dX9_leave_31 l_RX9_264 i108 (by decide) rfl rfl (Nat.le_of_ble_eq_true rfl) rfl (Nat.zero_le _) (Nat.zero_le _) rfl ?_
      refine CV.mono h (fun c9 h => ?_)
      refine R_iload_n (pc' := 35) dX9_leave_34 rfl rfl ?_
      exact Q_iret dX9_leave_35 rfl h
theorem e_X9_leave {K : SK} {d : Nat} {c : ct} {Q : ct → Int → Prop} (a1 : Int) (a2 : Int) (h : WI K (d + 1) mX9_leave 0 [(2, 108), (0, a1), (0, a2), (9, 0)] [] c Q) : CI K (d + 1) mX9_leave [(2, 108), (0, a1), (0, a2)] c Q := CM_ofS (by decide) (Nat.le_of_ble_eq_true rfl) _ rfl h
set_option maxRecDepth 100000 in
theorem s_X9_takesSeat_0 {K : SK} {d : Nat} {c : ct} {Q : ct → Prop} (a1 : Int) (a2 : Int) (h : CI K d mX9_whoSits [(2, 108), (0, a2)] c (fun c1 r2 => (ir r2) ∧ (r2 < 0 → ((0 ≤ a1 ∧ a1 < 6)) ∧ ∀ c5 : ct, c5 = up2 c1 111 a1 a2 → Q c5) ∧ (¬ (r2 < 0) → ((0 ≤ a1 ∧ a1 < 6)) ∧ ((0 ≤ r2 ∧ r2 < 6)) ∧ ∀ c8 : ct, c8 = up2 c1 111 r2 (c1 111 a1) → ((0 ≤ a1 ∧ a1 < 6)) ∧ ∀ c10 : ct, c10 = up2 c8 111 a1 a2 → Q c10))) : WV K (d + 1) mX9_takesSeat 0 [(2, 108), (0, a1), (0, a2), (9, 0)] [] c Q := by
  refine R_aload_n (pc' := 1) dX9_takesSeat_0 rfl i108.1 rfl ?_
  refine R_iload_n (pc' := 2) dX9_takesSeat_1 rfl rfl ?_
  refine Q_callVI (vs := [(0, a2)]) (st := []) (pc' := 5) dX9_takesSeat_2 l_RX9_256 i108 (by decide) rfl rfl (Nat.le_of_ble_eq_true rfl) rfl (Nat.zero_le _) (Nat.zero_le _) rfl ?_
  refine CI.mono h (fun c1 r2 h => ?_)
  refine R_istore_n (L' := [_, _, _, _]) (pc' := 6) dX9_takesSeat_5 (by decide) rfl rfl rfl ?_
  refine R_iload_n (pc' := 7) dX9_takesSeat_6 rfl rfl ?_
  have hs4 := h.1
  have h := h.2
  refine R_if_lt (tgt := 22) (pc' := 10) dX9_takesSeat_7 (by decide) hs4  rfl (fun hc3 => ?_) (fun hc3 => ?_)
  · have h := h.1 hc3
    refine R_aload_n (pc' := 23) dX9_takesSeat_22 rfl i108.1 rfl ?_
    refine Q_getfr (v := 111) (J := 7) (pc' := 26) rfl dX9_takesSeat_23 l_RX9_32 i108 fd9_7.1 fd9_7.2.1 fd9_7.2.2.1 fd9_7.2.2.2 f108_7 rfl ?_
    refine R_iload_n (pc' := 27) dX9_takesSeat_26 rfl rfl ?_
    refine R_iload_n (pc' := 28) dX9_takesSeat_27 rfl rfl ?_
    have hs6 := h.1
    have h := h.2
    refine Q_iastore (N := 6) (pc' := 29) rfl dX9_takesSeat_28 i111 (by decide) hs6  rfl (fun c5 hc5 => ?_)
    have h := h c5 hc5
    exact Q_ret dX9_takesSeat_29 rfl h
  · have h := h.2 hc3
    refine R_aload_n (pc' := 11) dX9_takesSeat_10 rfl i108.1 rfl ?_
    refine Q_getfr (v := 111) (J := 7) (pc' := 14) rfl dX9_takesSeat_11 l_RX9_32 i108 fd9_7.1 fd9_7.2.1 fd9_7.2.2.1 fd9_7.2.2.2 f108_7 rfl ?_
    refine R_iload_n (pc' := 15) dX9_takesSeat_14 rfl rfl ?_
    refine R_aload_n (pc' := 16) dX9_takesSeat_15 rfl i108.1 rfl ?_
    refine Q_getfr (v := 111) (J := 7) (pc' := 19) rfl dX9_takesSeat_16 l_RX9_32 i108 fd9_7.1 fd9_7.2.1 fd9_7.2.2.1 fd9_7.2.2.2 f108_7 rfl ?_
    refine R_iload_n (pc' := 20) dX9_takesSeat_19 rfl rfl ?_
    have hs7 := h.1
    have h := h.2
    refine Q_iaload (N := 6) (pc' := 21) rfl dX9_takesSeat_20 i111 (by decide) hs7 rfl ?_
    have hs9 := h.1
    have h := h.2
    refine Q_iastore (N := 6) (pc' := 22) rfl dX9_takesSeat_21 i111 (by decide) hs9  rfl (fun c8 hc8 => ?_)
    have h := h c8 hc8
    refine R_aload_n (pc' := 23) dX9_takesSeat_22 rfl i108.1 rfl ?_
    refine Q_getfr (v := 111) (J := 7) (pc' := 26) rfl dX9_takesSeat_23 l_RX9_32 i108 fd9_7.1 fd9_7.2.1 fd9_7.2.2.1 fd9_7.2.2.2 f108_7 rfl ?_
    refine R_iload_n (pc' := 27) dX9_takesSeat_26 rfl rfl ?_
    refine R_iload_n (pc' := 28) dX9_takesSeat_27 rfl rfl ?_
    have hs11 := h.1
    have h := h.2
    refine Q_iastore (N := 6) (pc' := 29) rfl dX9_takesSeat_28 i111 (by decide) hs11  rfl (fun c10 hc10 => ?_)
    have h := h c10 hc10
    exact Q_ret dX9_takesSeat_29 rfl h
theorem e_X9_takesSeat {K : SK} {d : Nat} {c : ct} {Q : ct → Prop} (a1 : Int) (a2 : Int) (h : WV K (d + 1) mX9_takesSeat 0 [(2, 108), (0, a1), (0, a2), (9, 0)] [] c Q) : CV K (d + 1) mX9_takesSeat [(2, 108), (0, a1), (0, a2)] c Q := CM_ofS (by decide) (Nat.le_of_ble_eq_true rfl) _ rfl h
set_option maxRecDepth 100000 in
theorem s_X9_sit_0 {K : SK} {d : Nat} {c : ct} {Q : ct → Int → Prop} (a1 : Int) (a2 : Int) (h : CI K d mX9_isGuest [(2, 108), (0, a1)] c (fun c1 r2 => (r2 = 0 → Q c1 (-10001)) ∧ (¬ (r2 = 0) → ir r2 ∧ CI K d mX9_isSeat [(2, 108), (0, a2)] c1 (fun c4 r5 => (r5 = 0 → Q c4 (-10001)) ∧ (¬ (r5 = 0) → ir r5 ∧ CV K d mX9_takesSeat [(2, 108), (0, a1), (0, a2)] c4 (fun c7 => CI K d mX9_fond [(2, 108), (0, a1)] c7 (fun c9 r10 => Q c9 r10))))))) : WI K (d + 1) mX9_sit 0 [(2, 108), (0, a1), (0, a2)] [] c Q := by
  refine R_aload_n (pc' := 1) dX9_sit_0 rfl i108.1 rfl ?_
  refine R_iload_n (pc' := 2) dX9_sit_1 rfl rfl ?_
  refine Q_callVI (vs := [(0, a1)]) (st := []) (pc' := 5) dX9_sit_2 l_RX9_260 i108 (by decide) rfl rfl (Nat.le_of_ble_eq_true rfl) rfl (Nat.zero_le _) (Nat.zero_le _) rfl ?_
  refine CI.mono h (fun c1 r2 h => ?_)
  by_cases hc3 : r2 = 0
  · have h := h.1 hc3
    refine R_eqS_if (tgt := 16) (pc' := 8) dX9_sit_5 (by decide) hc3 rfl ?_
    refine R_sipush (pc' := 19) dX9_sit_16 (by decide) rfl ?_
    exact Q_iret dX9_sit_19 rfl h
  · have h := h.2 hc3
    refine R_eqD_if (tgt := 16) (pc' := 8) dX9_sit_5 (by decide) hc3 h.1 rfl ?_
    have h := h.2
    refine R_aload_n (pc' := 9) dX9_sit_8 rfl i108.1 rfl ?_
    refine R_iload_n (pc' := 10) dX9_sit_9 rfl rfl ?_
    refine Q_callVI (vs := [(0, a2)]) (st := []) (pc' := 13) dX9_sit_10 l_RX9_268 i108 (by decide) rfl rfl (Nat.le_of_ble_eq_true rfl) rfl (Nat.zero_le _) (Nat.zero_le _) rfl ?_
    refine CI.mono h (fun c4 r5 h => ?_)
    by_cases hc6 : r5 = 0
    · have h := h.1 hc6
      refine R_neS_if (tgt := 20) (pc' := 16) dX9_sit_13 (by decide) hc6 rfl ?_
      refine R_sipush (pc' := 19) dX9_sit_16 (by decide) rfl ?_
      exact Q_iret dX9_sit_19 rfl h
    · have h := h.2 hc6
      refine R_neD_if (tgt := 20) (pc' := 16) dX9_sit_13 (by decide) hc6 h.1 rfl ?_
      have h := h.2
      refine R_aload_n (pc' := 21) dX9_sit_20 rfl i108.1 rfl ?_
      refine R_iload_n (pc' := 22) dX9_sit_21 rfl rfl ?_
      refine R_iload_n (pc' := 23) dX9_sit_22 rfl rfl ?_
      refine Q_callVV (vs := [(0, a1), (0, a2)]) (st := []) (pc' := 26) dX9_sit_23 l_RX9_271 i108 (by decide) rfl rfl (Nat.le_of_ble_eq_true rfl) rfl (Nat.zero_le _) (Nat.zero_le _) rfl ?_
      refine CV.mono h (fun c7 h => ?_)
      refine R_aload_n (pc' := 27) dX9_sit_26 rfl i108.1 rfl ?_
      refine R_iload_n (pc' := 28) dX9_sit_27 rfl rfl ?_
      refine Q_callVI (vs := [(0, a1)]) (st := []) (pc' := 31) dX9_sit_28 l_RX9_275 i108 (by decide) rfl rfl (Nat.le_of_ble_eq_true rfl) rfl (Nat.zero_le _) (Nat.zero_le _) rfl ?_
      refine CI.mono h (fun c9 r10 h => ?_)
      exact Q_iret dX9_sit_31 rfl h
theorem e_X9_sit {K : SK} {d : Nat} {c : ct} {Q : ct → Int → Prop} (a1 : Int) (a2 : Int) (h : WI K (d + 1) mX9_sit 0 [(2, 108), (0, a1), (0, a2)] [] c Q) : CI K (d + 1) mX9_sit [(2, 108), (0, a1), (0, a2)] c Q := CM_ofS (by decide) (Nat.le_of_ble_eq_true rfl) _ rfl h
set_option maxRecDepth 100000 in
theorem s_X9_pours_0 {K : SK} {d : Nat} {c : ct} {Q : ct → Prop} (a1 : Int) (h : ∀ c1 : ct, c1 = up2 c 108 3 a1 → CI K d mX9_whoSits [(2, 108), (0, a1)] c1 (fun c2 r3 => (ir r3) ∧ (r3 < 0 → Q c2) ∧ (¬ (r3 < 0) → ∀ c6 : ct, c6 = up2 c2 108 2 (bAnd (c2 108 2) (bXor (bShl 1 r3) (-1))) → Q c6))) : WV K (d + 1) mX9_pours 0 [(2, 108), (0, a1), (9, 0)] [] c Q := by
  refine R_aload_n (pc' := 1) dX9_pours_0 rfl i108.1 rfl ?_
  refine R_iload_n (pc' := 2) dX9_pours_1 rfl rfl ?_
  refine Q_putfi (J := 3) (pc' := 5) rfl dX9_pours_2 l_RX9_19 i108 fd9_3.1 fd9_3.2.1 fd9_3.2.2.2.1 fd9_3.2.2.2.2 rfl (fun c1 hc1 => ?_)
  have h := h c1 hc1
  refine R_aload_n (pc' := 6) dX9_pours_5 rfl i108.1 rfl ?_
  refine R_iload_n (pc' := 7) dX9_pours_6 rfl rfl ?_
  refine Q_callVI (vs := [(0, a1)]) (st := []) (pc' := 10) dX9_pours_7 l_RX9_256 i108 (by decide) rfl rfl (Nat.le_of_ble_eq_true rfl) rfl (Nat.zero_le _) (Nat.zero_le _) rfl ?_
  refine CI.mono h (fun c2 r3 h => ?_)
  refine R_istore_n (L' := [_, _, _]) (pc' := 11) dX9_pours_10 (by decide) rfl rfl rfl ?_
  refine R_iload_n (pc' := 12) dX9_pours_11 rfl rfl ?_
  have hs5 := h.1
  have h := h.2
  refine R_if_lt (tgt := 29) (pc' := 15) dX9_pours_12 (by decide) hs5  rfl (fun hc4 => ?_) (fun hc4 => ?_)
  · have h := h.1 hc4
    exact Q_ret dX9_pours_29 rfl h
  · have h := h.2 hc4
    refine R_aload_n (pc' := 16) dX9_pours_15 rfl i108.1 rfl ?_
    refine R_dup (pc' := 17) dX9_pours_16 (by simp) rfl ?_
    refine Q_getfi (J := 2) (pc' := 20) rfl dX9_pours_17 l_RX9_16 i108 fd9_2.1 fd9_2.2.1 fd9_2.2.2.1 rfl ?_
    refine R_iconst (pc' := 21) dX9_pours_20 rfl ?_
    refine R_iload_n (pc' := 22) dX9_pours_21 rfl rfl ?_
    refine R_ishl (pc' := 23) dX9_pours_22 rfl ?_
    refine R_iconst (pc' := 24) dX9_pours_23 rfl ?_
    refine R_ixor (pc' := 25) dX9_pours_24 rfl ?_
    refine R_iand (pc' := 26) dX9_pours_25 rfl ?_
    refine Q_putfi (J := 2) (pc' := 29) rfl dX9_pours_26 l_RX9_16 i108 fd9_2.1 fd9_2.2.1 fd9_2.2.2.2.1 fd9_2.2.2.2.2 rfl (fun c6 hc6 => ?_)
    have h := h c6 hc6
    exact Q_ret dX9_pours_29 rfl h
theorem e_X9_pours {K : SK} {d : Nat} {c : ct} {Q : ct → Prop} (a1 : Int) (h : WV K (d + 1) mX9_pours 0 [(2, 108), (0, a1), (9, 0)] [] c Q) : CV K (d + 1) mX9_pours [(2, 108), (0, a1)] c Q := CM_ofS (by decide) (Nat.le_of_ble_eq_true rfl) _ rfl h
set_option maxRecDepth 100000 in
theorem s_X9_pour_0 {K : SK} {d : Nat} {c : ct} {Q : ct → Int → Prop} (a1 : Int) (h : CI K d mX9_isSeat [(2, 108), (0, a1)] c (fun c1 r2 => (r2 = 0 → Q c1 (-1)) ∧ (¬ (r2 = 0) → ir r2 ∧ CV K d mX9_pours [(2, 108), (0, a1)] c1 (fun c4 => CI K d mX9_bits [(2, 108), (0, (c4 108 2))] c4 (fun c6 r7 => Q c6 r7))))) : WI K (d + 1) mX9_pour 0 [(2, 108), (0, a1)] [] c Q := by
  refine R_aload_n (pc' := 1) dX9_pour_0 rfl i108.1 rfl ?_
  refine R_iload_n (pc' := 2) dX9_pour_1 rfl rfl ?_
  refine Q_callVI (vs := [(0, a1)]) (st := []) (pc' := 5) dX9_pour_2 l_RX9_268 i108 (by decide) rfl rfl (Nat.le_of_ble_eq_true rfl) rfl (Nat.zero_le _) (Nat.zero_le _) rfl ?_
  refine CI.mono h (fun c1 r2 h => ?_)
  by_cases hc3 : r2 = 0
  · have h := h.1 hc3
    refine R_neS_if (tgt := 10) (pc' := 8) dX9_pour_5 (by decide) hc3 rfl ?_
    refine R_iconst (pc' := 9) dX9_pour_8 rfl ?_
    exact Q_iret dX9_pour_9 rfl h
  · have h := h.2 hc3
    refine R_neD_if (tgt := 10) (pc' := 8) dX9_pour_5 (by decide) hc3 h.1 rfl ?_
    have h := h.2
    refine R_aload_n (pc' := 11) dX9_pour_10 rfl i108.1 rfl ?_
    refine R_iload_n (pc' := 12) dX9_pour_11 rfl rfl ?_
    refine Q_callVV (vs := [(0, a1)]) (st := []) (pc' := 15) dX9_pour_12 l_RX9_278 i108 (by decide) rfl rfl (Nat.le_of_ble_eq_true rfl) rfl (Nat.zero_le _) (Nat.zero_le _) rfl ?_
    refine CV.mono h (fun c4 h => ?_)
    refine R_aload_n (pc' := 16) dX9_pour_15 rfl i108.1 rfl ?_
    refine R_aload_n (pc' := 17) dX9_pour_16 rfl i108.1 rfl ?_
    refine Q_getfi (J := 2) (pc' := 20) rfl dX9_pour_17 l_RX9_16 i108 fd9_2.1 fd9_2.2.1 fd9_2.2.2.1 rfl ?_
    refine Q_callVI (vs := [(0, (c4 108 2))]) (st := []) (pc' := 23) dX9_pour_20 l_RX9_282 i108 (by decide) rfl rfl (Nat.le_of_ble_eq_true rfl) rfl (Nat.zero_le _) (Nat.zero_le _) rfl ?_
    refine CI.mono h (fun c6 r7 h => ?_)
    exact Q_iret dX9_pour_23 rfl h
theorem e_X9_pour {K : SK} {d : Nat} {c : ct} {Q : ct → Int → Prop} (a1 : Int) (h : WI K (d + 1) mX9_pour 0 [(2, 108), (0, a1)] [] c Q) : CI K (d + 1) mX9_pour [(2, 108), (0, a1)] c Q := CM_ofS (by decide) (Nat.le_of_ble_eq_true rfl) _ rfl h
set_option maxRecDepth 100000 in
theorem s_X9_row_0 {K : SK} {d : Nat} {c : ct} {Q : ct → Int → Prop} (a1 : Int) (a2 : Int) (a3 : Int) (h : CI K d mX9_isGuest [(2, 108), (0, a1)] c (fun c1 r2 => (r2 = 0 → Q c1 (-1)) ∧ (¬ (r2 = 0) → ir r2 ∧ CI K d mX9_in [(2, 108), (0, a2), (0, 0), (0, 3)] c1 (fun c4 r5 => (r5 = 0 → Q c4 (-1)) ∧ (¬ (r5 = 0) → ir r5 ∧ CI K d mX9_in [(2, 108), (0, a3), (0, 0), (0, 9)] c4 (fun c7 r8 => (r8 = 0 → Q c7 (-2)) ∧ (¬ (r8 = 0) → ir r8 ∧ ((0 ≤ a1 ∧ a1 < 6)) ∧ ((c7 109 a1) = 6 → ((0 ≤ ((4 * a1) + a2) ∧ ((4 * a1) + a2) < 24)) ∧ ((0 ≤ ((4 * a1) + a2) ∧ ((4 * a1) + a2) < 24)) ∧ ∀ c13 : ct, c13 = up2 c7 113 ((4 * a1) + a2) a3 → Q c13 (c7 113 ((4 * a1) + a2))) ∧ (¬ ((c7 109 a1) = 6) → ir (c7 109 a1) ∧ Q c7 (-3))))))))) : WI K (d + 1) mX9_row 0 [(2, 108), (0, a1), (0, a2), (0, a3), (9, 0)] [] c Q := by
  refine R_aload_n (pc' := 1) dX9_row_0 rfl i108.1 rfl ?_
  refine R_iload_n (pc' := 2) dX9_row_1 rfl rfl ?_
  refine Q_callVI (vs := [(0, a1)]) (st := []) (pc' := 5) dX9_row_2 l_RX9_260 i108 (by decide) rfl rfl (Nat.le_of_ble_eq_true rfl) rfl (Nat.zero_le _) (Nat.zero_le _) rfl ?_
  refine CI.mono h (fun c1 r2 h => ?_)
  by_cases hc3 : r2 = 0
  · have h := h.1 hc3
    refine R_eqS_if (tgt := 18) (pc' := 8) dX9_row_5 (by decide) hc3 rfl ?_
    refine R_iconst (pc' := 19) dX9_row_18 rfl ?_
    exact Q_iret dX9_row_19 rfl h
  · have h := h.2 hc3
    refine R_eqD_if (tgt := 18) (pc' := 8) dX9_row_5 (by decide) hc3 h.1 rfl ?_
    have h := h.2
    refine R_aload_n (pc' := 9) dX9_row_8 rfl i108.1 rfl ?_
    refine R_iload_n (pc' := 10) dX9_row_9 rfl rfl ?_
    refine R_iconst (pc' := 11) dX9_row_10 rfl ?_
    refine R_iconst (pc' := 12) dX9_row_11 rfl ?_
    refine Q_callVI (vs := [(0, a2), (0, 0), (0, 3)]) (st := []) (pc' := 15) dX9_row_12 l_RX9_252 i108 (by decide) rfl rfl (Nat.le_of_ble_eq_true rfl) rfl (Nat.zero_le _) (Nat.zero_le _) rfl ?_
    refine CI.mono h (fun c4 r5 h => ?_)
    by_cases hc6 : r5 = 0
    · have h := h.1 hc6
      refine R_neS_if (tgt := 20) (pc' := 18) dX9_row_15 (by decide) hc6 rfl ?_
      refine R_iconst (pc' := 19) dX9_row_18 rfl ?_
      exact Q_iret dX9_row_19 rfl h
    · have h := h.2 hc6
      refine R_neD_if (tgt := 20) (pc' := 18) dX9_row_15 (by decide) hc6 h.1 rfl ?_
      have h := h.2
      refine R_aload_n (pc' := 21) dX9_row_20 rfl i108.1 rfl ?_
      refine R_iload_n (pc' := 22) dX9_row_21 rfl rfl ?_
      refine R_iconst (pc' := 23) dX9_row_22 rfl ?_
      refine R_bipush (pc' := 25) dX9_row_23 (by decide) rfl ?_
      refine Q_callVI (vs := [(0, a3), (0, 0), (0, 9)]) (st := []) (pc' := 28) dX9_row_25 l_RX9_252 i108 (by decide) rfl rfl (Nat.le_of_ble_eq_true rfl) rfl (Nat.zero_le _) (Nat.zero_le _) rfl ?_
      refine CI.mono h (fun c7 r8 h => ?_)
      by_cases hc9 : r8 = 0
      · have h := h.1 hc9
        refine R_neS_if (tgt := 34) (pc' := 31) dX9_row_28 (by decide) hc9 rfl ?_
        refine R_bipush (pc' := 33) dX9_row_31 (by decide) rfl ?_
        exact Q_iret dX9_row_33 rfl h
      · have h := h.2 hc9
        refine R_neD_if (tgt := 34) (pc' := 31) dX9_row_28 (by decide) hc9 h.1 rfl ?_
        have h := h.2
        refine R_aload_n (pc' := 35) dX9_row_34 rfl i108.1 rfl ?_
        refine Q_getfr (v := 109) (J := 5) (pc' := 38) rfl dX9_row_35 l_RX9_25 i108 fd9_5.1 fd9_5.2.1 fd9_5.2.2.1 fd9_5.2.2.2 f108_5 rfl ?_
        refine R_iload_n (pc' := 39) dX9_row_38 rfl rfl ?_
        have hs10 := h.1
        have h := h.2
        refine Q_iaload (N := 6) (pc' := 40) rfl dX9_row_39 i109 (by decide) hs10 rfl ?_
        refine R_bipush (pc' := 42) dX9_row_40 (by decide) rfl ?_
        by_cases hc11 : (c7 109 a1) = 6
        · have h := h.1 hc11
          refine R_eqS_ic (tgt := 48) (pc' := 45) dX9_row_42 (by decide) hc11 rfl ?_
          refine R_aload_n (pc' := 49) dX9_row_48 rfl i108.1 rfl ?_
          refine Q_getfr (v := 113) (J := 9) (pc' := 52) rfl dX9_row_49 l_RX9_38 i108 fd9_9.1 fd9_9.2.1 fd9_9.2.2.1 fd9_9.2.2.2 f108_9 rfl ?_
          refine R_iconst (pc' := 53) dX9_row_52 rfl ?_
          refine R_iload_n (pc' := 54) dX9_row_53 rfl rfl ?_
          refine R_imul (pc' := 55) dX9_row_54 rfl ?_
          refine R_iload_n (pc' := 56) dX9_row_55 rfl rfl ?_
          refine R_iadd (pc' := 57) dX9_row_56 rfl ?_
          have hs12 := h.1
          have h := h.2
          refine Q_iaload (N := 24) (pc' := 58) rfl dX9_row_57 i113 (by decide) hs12 rfl ?_
          refine R_istore (L' := [_, _, _, _, _]) (pc' := 60) dX9_row_58 (by decide) rfl rfl rfl ?_
          refine R_aload_n (pc' := 61) dX9_row_60 rfl i108.1 rfl ?_
          refine Q_getfr (v := 113) (J := 9) (pc' := 64) rfl dX9_row_61 l_RX9_38 i108 fd9_9.1 fd9_9.2.1 fd9_9.2.2.1 fd9_9.2.2.2 f108_9 rfl ?_
          refine R_iconst (pc' := 65) dX9_row_64 rfl ?_
          refine R_iload_n (pc' := 66) dX9_row_65 rfl rfl ?_
          refine R_imul (pc' := 67) dX9_row_66 rfl ?_
          refine R_iload_n (pc' := 68) dX9_row_67 rfl rfl ?_
          refine R_iadd (pc' := 69) dX9_row_68 rfl ?_
          refine R_iload_n (pc' := 70) dX9_row_69 rfl rfl ?_
          have hs14 := h.1
          have h := h.2
          refine Q_iastore (N := 24) (pc' := 71) rfl dX9_row_70 i113 (by decide) hs14  rfl (fun c13 hc13 => ?_)
          have h := h c13 hc13
          refine R_iload (pc' := 73) dX9_row_71 rfl rfl ?_
          exact Q_iret dX9_row_73 rfl h
        · have h := h.2 hc11
          refine R_eqD_ic (tgt := 48) (pc' := 45) dX9_row_42 (by decide) hc11 ⟨h.1, ir_l (by decide) (by decide)⟩ rfl ?_
          have h := h.2
          refine R_bipush (pc' := 47) dX9_row_45 (by decide) rfl ?_
          exact Q_iret dX9_row_47 rfl h
theorem e_X9_row {K : SK} {d : Nat} {c : ct} {Q : ct → Int → Prop} (a1 : Int) (a2 : Int) (a3 : Int) (h : WI K (d + 1) mX9_row 0 [(2, 108), (0, a1), (0, a2), (0, a3), (9, 0)] [] c Q) : CI K (d + 1) mX9_row [(2, 108), (0, a1), (0, a2), (0, a3)] c Q := CM_ofS (by decide) (Nat.le_of_ble_eq_true rfl) _ rfl h
set_option maxRecDepth 100000 in
theorem s_X9_feed_0 {K : SK} {d : Nat} {c : ct} {Q : ct → Int → Prop} (a1 : Int) (h : CI K d mX9_in [(2, 108), (0, a1), (0, 0), (0, 127)] c (fun c1 r2 => (r2 = 0 → Q c1 (-2)) ∧ (¬ (r2 = 0) → ir r2 ∧ ((c1 108 12) = 100 → Q c1 (-4)) ∧ (¬ ((c1 108 12) = 100) → ir (c1 108 12) ∧ ((0 ≤ (c1 108 12) ∧ (c1 108 12) < 100)) ∧ ∀ c5 : ct, c5 = up2 c1 114 (c1 108 12) a1 → ∀ c7 : ct, c7 = up2 c5 108 12 ((c5 108 12) + 1) → Q c7 (c7 108 12))))) : WI K (d + 1) mX9_feed 0 [(2, 108), (0, a1)] [] c Q := by
  refine R_aload_n (pc' := 1) dX9_feed_0 rfl i108.1 rfl ?_
  refine R_iload_n (pc' := 2) dX9_feed_1 rfl rfl ?_
  refine R_iconst (pc' := 3) dX9_feed_2 rfl ?_
  refine R_bipush (pc' := 5) dX9_feed_3 (by decide) rfl ?_
  refine Q_callVI (vs := [(0, a1), (0, 0), (0, 127)]) (st := []) (pc' := 8) dX9_feed_5 l_RX9_252 i108 (by decide) rfl rfl (Nat.le_of_ble_eq_true rfl) rfl (Nat.zero_le _) (Nat.zero_le _) rfl ?_
  refine CI.mono h (fun c1 r2 h => ?_)
  by_cases hc3 : r2 = 0
  · have h := h.1 hc3
    refine R_neS_if (tgt := 14) (pc' := 11) dX9_feed_8 (by decide) hc3 rfl ?_
    refine R_bipush (pc' := 13) dX9_feed_11 (by decide) rfl ?_
    exact Q_iret dX9_feed_13 rfl h
  · have h := h.2 hc3
    refine R_neD_if (tgt := 14) (pc' := 11) dX9_feed_8 (by decide) hc3 h.1 rfl ?_
    have h := h.2
    refine R_aload_n (pc' := 15) dX9_feed_14 rfl i108.1 rfl ?_
    refine Q_getfi (J := 12) (pc' := 18) rfl dX9_feed_15 l_RX9_47 i108 fd9_12.1 fd9_12.2.1 fd9_12.2.2.1 rfl ?_
    refine R_bipush (pc' := 20) dX9_feed_18 (by decide) rfl ?_
    by_cases hc4 : (c1 108 12) = 100
    · have h := h.1 hc4
      refine R_neS_ic (tgt := 26) (pc' := 23) dX9_feed_20 (by decide) hc4 rfl ?_
      refine R_bipush (pc' := 25) dX9_feed_23 (by decide) rfl ?_
      exact Q_iret dX9_feed_25 rfl h
    · have h := h.2 hc4
      refine R_neD_ic (tgt := 26) (pc' := 23) dX9_feed_20 (by decide) hc4 ⟨h.1, ir_l (by decide) (by decide)⟩ rfl ?_
      have h := h.2
      refine R_aload_n (pc' := 27) dX9_feed_26 rfl i108.1 rfl ?_
      refine Q_getfr (v := 114) (J := 15) (pc' := 30) rfl dX9_feed_27 l_RX9_56 i108 fd9_15.1 fd9_15.2.1 fd9_15.2.2.1 fd9_15.2.2.2 f108_15 rfl ?_
      refine R_aload_n (pc' := 31) dX9_feed_30 rfl i108.1 rfl ?_
      refine Q_getfi (J := 12) (pc' := 34) rfl dX9_feed_31 l_RX9_47 i108 fd9_12.1 fd9_12.2.1 fd9_12.2.2.1 rfl ?_
      refine R_iload_n (pc' := 35) dX9_feed_34 rfl rfl ?_
      have hs6 := h.1
      have h := h.2
      refine Q_iastore (N := 100) (pc' := 36) rfl dX9_feed_35 i114 (by decide) hs6  rfl (fun c5 hc5 => ?_)
      have h := h c5 hc5
      refine R_aload_n (pc' := 37) dX9_feed_36 rfl i108.1 rfl ?_
      refine R_dup (pc' := 38) dX9_feed_37 (by simp) rfl ?_
      refine Q_getfi (J := 12) (pc' := 41) rfl dX9_feed_38 l_RX9_47 i108 fd9_12.1 fd9_12.2.1 fd9_12.2.2.1 rfl ?_
      refine R_iconst (pc' := 42) dX9_feed_41 rfl ?_
      refine R_iadd (pc' := 43) dX9_feed_42 rfl ?_
      refine Q_putfi (J := 12) (pc' := 46) rfl dX9_feed_43 l_RX9_47 i108 fd9_12.1 fd9_12.2.1 fd9_12.2.2.2.1 fd9_12.2.2.2.2 rfl (fun c7 hc7 => ?_)
      have h := h c7 hc7
      refine R_aload_n (pc' := 47) dX9_feed_46 rfl i108.1 rfl ?_
      refine Q_getfi (J := 12) (pc' := 50) rfl dX9_feed_47 l_RX9_47 i108 fd9_12.1 fd9_12.2.1 fd9_12.2.2.1 rfl ?_
      exact Q_iret dX9_feed_50 rfl h
theorem e_X9_feed {K : SK} {d : Nat} {c : ct} {Q : ct → Int → Prop} (a1 : Int) (h : WI K (d + 1) mX9_feed 0 [(2, 108), (0, a1)] [] c Q) : CI K (d + 1) mX9_feed [(2, 108), (0, a1)] c Q := CM_ofS (by decide) (Nat.le_of_ble_eq_true rfl) _ rfl h
set_option maxRecDepth 100000 in
theorem s_X9_next_0 {K : SK} {d : Nat} {c : ct} {Q : ct → Int → Prop}  (h : (ir (c 108 13) ∧ ir (c 108 12)) ∧ ((c 108 12) ≤ (c 108 13) → Q c (-1)) ∧ (¬ ((c 108 12) ≤ (c 108 13)) → ((0 ≤ (c 108 13) ∧ (c 108 13) < 100)) ∧ Q c (c 114 (c 108 13)))) : WI K (d + 1) mX9_next 0 [(2, 108)] [] c Q := by
  refine R_aload_n (pc' := 1) dX9_next_0 rfl i108.1 rfl ?_
  refine Q_getfi (J := 13) (pc' := 4) rfl dX9_next_1 l_RX9_50 i108 fd9_13.1 fd9_13.2.1 fd9_13.2.2.1 rfl ?_
  refine R_aload_n (pc' := 5) dX9_next_4 rfl i108.1 rfl ?_
  refine Q_getfi (J := 12) (pc' := 8) rfl dX9_next_5 l_RX9_47 i108 fd9_12.1 fd9_12.2.1 fd9_12.2.2.1 rfl ?_
  have hs2 := h.1
  have h := h.2
  refine R_icmp_ge (tgt := 23) (pc' := 11) dX9_next_8 (by decide) hs2.1 hs2.2 rfl (fun hc1 => ?_) (fun hc1 => ?_)
  · have h := h.1 hc1
    refine R_iconst (pc' := 24) dX9_next_23 rfl ?_
    exact Q_iret dX9_next_24 rfl h
  · have h := h.2 hc1
    refine R_aload_n (pc' := 12) dX9_next_11 rfl i108.1 rfl ?_
    refine Q_getfr (v := 114) (J := 15) (pc' := 15) rfl dX9_next_12 l_RX9_56 i108 fd9_15.1 fd9_15.2.1 fd9_15.2.2.1 fd9_15.2.2.2 f108_15 rfl ?_
    refine R_aload_n (pc' := 16) dX9_next_15 rfl i108.1 rfl ?_
    refine Q_getfi (J := 13) (pc' := 19) rfl dX9_next_16 l_RX9_50 i108 fd9_13.1 fd9_13.2.1 fd9_13.2.2.1 rfl ?_
    have hs3 := h.1
    have h := h.2
    refine Q_iaload (N := 100) (pc' := 20) rfl dX9_next_19 i114 (by decide) hs3 rfl ?_
    refine R_goto (tgt := 24) dX9_next_20 (by decide) ?_
    exact Q_iret dX9_next_24 rfl h
theorem e_X9_next {K : SK} {d : Nat} {c : ct} {Q : ct → Int → Prop}  (h : WI K (d + 1) mX9_next 0 [(2, 108)] [] c Q) : CI K (d + 1) mX9_next [(2, 108)] c Q := CM_ofS (by decide) (Nat.le_of_ble_eq_true rfl) _ rfl h
set_option maxRecDepth 100000 in
theorem s_X9_takes_0 {K : SK} {d : Nat} {c : ct} {Q : ct → Int → Prop} (a1 : Int) (h : CI K d mX9_next [(2, 108)] c (fun c1 r2 => (r2 = a1 → ∀ c4 : ct, c4 = up2 c1 108 13 ((c1 108 13) + 1) → Q c4 1) ∧ (¬ (r2 = a1) → (ir r2 ∧ ir a1) ∧ Q c1 0))) : WI K (d + 1) mX9_takes 0 [(2, 108), (0, a1)] [] c Q := by
  refine R_aload_n (pc' := 1) dX9_takes_0 rfl i108.1 rfl ?_
  refine Q_callVI (vs := []) (st := []) (pc' := 4) dX9_takes_1 l_RX9_285 i108 (by decide) rfl rfl (Nat.le_of_ble_eq_true rfl) rfl (Nat.zero_le _) (Nat.zero_le _) rfl ?_
  refine CI.mono h (fun c1 r2 h => ?_)
  refine R_iload_n (pc' := 5) dX9_takes_4 rfl rfl ?_
  by_cases hc3 : r2 = a1
  · have h := h.1 hc3
    refine R_eqS_ic (tgt := 10) (pc' := 8) dX9_takes_5 (by decide) hc3 rfl ?_
    refine R_aload_n (pc' := 11) dX9_takes_10 rfl i108.1 rfl ?_
    refine R_dup (pc' := 12) dX9_takes_11 (by simp) rfl ?_
    refine Q_getfi (J := 13) (pc' := 15) rfl dX9_takes_12 l_RX9_50 i108 fd9_13.1 fd9_13.2.1 fd9_13.2.2.1 rfl ?_
    refine R_iconst (pc' := 16) dX9_takes_15 rfl ?_
    refine R_iadd (pc' := 17) dX9_takes_16 rfl ?_
    refine Q_putfi (J := 13) (pc' := 20) rfl dX9_takes_17 l_RX9_50 i108 fd9_13.1 fd9_13.2.1 fd9_13.2.2.2.1 fd9_13.2.2.2.2 rfl (fun c4 hc4 => ?_)
    have h := h c4 hc4
    refine R_iconst (pc' := 21) dX9_takes_20 rfl ?_
    exact Q_zret dX9_takes_21 rfl (Or.inr rfl) h
  · have h := h.2 hc3
    refine R_eqD_ic (tgt := 10) (pc' := 8) dX9_takes_5 (by decide) hc3 h.1 rfl ?_
    have h := h.2
    refine R_iconst (pc' := 9) dX9_takes_8 rfl ?_
    exact Q_zret dX9_takes_9 rfl (Or.inl rfl) h
theorem e_X9_takes {K : SK} {d : Nat} {c : ct} {Q : ct → Int → Prop} (a1 : Int) (h : WI K (d + 1) mX9_takes 0 [(2, 108), (0, a1)] [] c Q) : CI K (d + 1) mX9_takes [(2, 108), (0, a1)] c Q := CM_ofS (by decide) (Nat.le_of_ble_eq_true rfl) _ rfl h
set_option maxRecDepth 100000 in
theorem s_X9_takesWord_0 {K : SK} {d : Nat} {c : ct} {Q : ct → Int → Prop} (a1 : Int) (a2 : Int) (h : WI K (d + 1) mX9_takesWord 2 [(2, 108), (0, a1), (0, a2), (0, 0)] [] c Q) : WI K (d + 1) mX9_takesWord 0 [(2, 108), (0, a1), (0, a2), (9, 0)] [] c Q := by
  refine R_iconst (pc' := 1) dX9_takesWord_0 rfl ?_
  refine R_istore_n (L' := [_, _, _, _]) (pc' := 2) dX9_takesWord_1 (by decide) rfl rfl rfl ?_
  exact WP_wk (wk_e (wk_e (wk_e (wk_e wk_n)))) h
set_option maxRecDepth 100000 in
theorem s_X9_takesWord_2 {K : SK} {d : Nat} {c : ct} {Q : ct → Int → Prop} (a1 : Int) (a2 : Int) (a3 : Int) (h : (ir a3 ∧ ir a2) ∧ (a2 ≤ a3 → CI K d mX9_takes [(2, 108), (0, 32)] c (fun c3 r4 => (r4 = 0 ∨ r4 = 1) ∧ Q c3 r4)) ∧ (¬ (a2 ≤ a3) → ((0 ≤ (a1 + a3) ∧ (a1 + a3) < 20)) ∧ CI K d mX9_takes [(2, 108), (0, (c 122 (a1 + a3)))] c (fun c6 r7 => (r7 = 0 → Q c6 0) ∧ (¬ (r7 = 0) → ir r7 ∧ WI K (d + 1) mX9_takesWord 2 [(2, 108), (0, a1), (0, a2), (0, (a3 + 1))] [] c6 Q)))) : WI K (d + 1) mX9_takesWord 2 [(2, 108), (0, a1), (0, a2), (0, a3)] [] c Q := by
  refine R_iload_n (pc' := 3) dX9_takesWord_2 rfl rfl ?_
  refine R_iload_n (pc' := 4) dX9_takesWord_3 rfl rfl ?_
  have hs2 := h.1
  have h := h.2
  refine R_icmp_ge (tgt := 30) (pc' := 7) dX9_takesWord_4 (by decide) hs2.1 hs2.2 rfl (fun hc1 => ?_) (fun hc1 => ?_)
  · have h := h.1 hc1
    refine R_aload_n (pc' := 31) dX9_takesWord_30 rfl i108.1 rfl ?_
    refine R_bipush (pc' := 33) dX9_takesWord_31 (by decide) rfl ?_
    refine Q_callVI (vs := [(0, 32)]) (st := []) (pc' := 36) dX9_takesWord_33 l_RX9_289 i108 (by decide) rfl rfl (Nat.le_of_ble_eq_true rfl) rfl (Nat.zero_le _) (Nat.zero_le _) rfl ?_
    refine CI.mono h (fun c3 r4 h => ?_)
    exact Q_zret dX9_takesWord_36 rfl h.1 h.2
  · have h := h.2 hc1
    refine R_aload_n (pc' := 8) dX9_takesWord_7 rfl i108.1 rfl ?_
    refine R_aload_n (pc' := 9) dX9_takesWord_8 rfl i108.1 rfl ?_
    refine Q_getfr (v := 122) (J := 26) (pc' := 12) rfl dX9_takesWord_9 l_RX9_89 i108 fd9_26.1 fd9_26.2.1 fd9_26.2.2.1 fd9_26.2.2.2 f108_26 rfl ?_
    refine R_iload_n (pc' := 13) dX9_takesWord_12 rfl rfl ?_
    refine R_iload_n (pc' := 14) dX9_takesWord_13 rfl rfl ?_
    refine R_iadd (pc' := 15) dX9_takesWord_14 rfl ?_
    have hs5 := h.1
    have h := h.2
    refine Q_iaload (N := 20) (pc' := 16) rfl dX9_takesWord_15 i122 (by decide) hs5 rfl ?_
    refine Q_callVI (vs := [(0, (c 122 (a1 + a3)))]) (st := []) (pc' := 19) dX9_takesWord_16 l_RX9_289 i108 (by decide) rfl rfl (Nat.le_of_ble_eq_true rfl) rfl (Nat.zero_le _) (Nat.zero_le _) rfl ?_
    refine CI.mono h (fun c6 r7 h => ?_)
    by_cases hc8 : r7 = 0
    · have h := h.1 hc8
      refine R_neS_if (tgt := 24) (pc' := 22) dX9_takesWord_19 (by decide) hc8 rfl ?_
      refine R_iconst (pc' := 23) dX9_takesWord_22 rfl ?_
      exact Q_zret dX9_takesWord_23 rfl (Or.inl rfl) h
    · have h := h.2 hc8
      refine R_neD_if (tgt := 24) (pc' := 22) dX9_takesWord_19 (by decide) hc8 h.1 rfl ?_
      have h := h.2
      refine R_iinc (L' := [_, _, _, _]) (pc' := 27) dX9_takesWord_24 rfl (by decide) rfl rfl rfl ?_
      refine R_goto (tgt := 2) dX9_takesWord_27 (by decide) ?_
      exact WP_wk (wk_e (wk_e (wk_e (wk_e wk_n)))) h
theorem e_X9_takesWord {K : SK} {d : Nat} {c : ct} {Q : ct → Int → Prop} (a1 : Int) (a2 : Int) (h : WI K (d + 1) mX9_takesWord 0 [(2, 108), (0, a1), (0, a2), (9, 0)] [] c Q) : CI K (d + 1) mX9_takesWord [(2, 108), (0, a1), (0, a2)] c Q := CM_ofS (by decide) (Nat.le_of_ble_eq_true rfl) _ rfl h
set_option maxRecDepth 100000 in
theorem s_X9_isDigit_0 {K : SK} {d : Nat} {c : ct} {Q : ct → Int → Prop}  (h : CI K d mX9_next [(2, 108)] c (fun c1 r2 => CI K d mX9_in [(2, 108), (0, r2), (0, 48), (0, 57)] c1 (fun c3 r4 => (r4 = 0 ∨ r4 = 1) ∧ Q c3 r4))) : WI K (d + 1) mX9_isDigit 0 [(2, 108)] [] c Q := by
  refine R_aload_n (pc' := 1) dX9_isDigit_0 rfl i108.1 rfl ?_
  refine R_aload_n (pc' := 2) dX9_isDigit_1 rfl i108.1 rfl ?_
  refine Q_callVI (vs := []) (st := [(2, 108)]) (pc' := 5) dX9_isDigit_2 l_RX9_285 i108 (by decide) rfl rfl (Nat.le_of_ble_eq_true rfl) rfl (Nat.zero_le _) (Nat.zero_le _) rfl ?_
  refine CI.mono h (fun c1 r2 h => ?_)
  refine R_bipush (pc' := 7) dX9_isDigit_5 (by decide) rfl ?_
  refine R_bipush (pc' := 9) dX9_isDigit_7 (by decide) rfl ?_
  refine Q_callVI (vs := [(0, r2), (0, 48), (0, 57)]) (st := []) (pc' := 12) dX9_isDigit_9 l_RX9_252 i108 (by decide) rfl rfl (Nat.le_of_ble_eq_true rfl) rfl (Nat.zero_le _) (Nat.zero_le _) rfl ?_
  refine CI.mono h (fun c3 r4 h => ?_)
  exact Q_zret dX9_isDigit_12 rfl h.1 h.2
theorem e_X9_isDigit {K : SK} {d : Nat} {c : ct} {Q : ct → Int → Prop}  (h : WI K (d + 1) mX9_isDigit 0 [(2, 108)] [] c Q) : CI K (d + 1) mX9_isDigit [(2, 108)] c Q := CM_ofS (by decide) (Nat.le_of_ble_eq_true rfl) _ rfl h
set_option maxRecDepth 100000 in
theorem s_X9_takesNumber_0 {K : SK} {d : Nat} {c : ct} {Q : ct → Int → Prop}  (h : CI K d mX9_isDigit [(2, 108)] c (fun c1 r2 => (r2 = 0 → Q c1 0) ∧ (¬ (r2 = 0) → ir r2 ∧ ∀ c4 : ct, c4 = up2 c1 108 14 0 → WI K (d + 1) mX9_takesNumber 16 [(2, 108), (0, 0)] [] c4 Q))) : WI K (d + 1) mX9_takesNumber 0 [(2, 108), (9, 0)] [] c Q := by
  refine R_aload_n (pc' := 1) dX9_takesNumber_0 rfl i108.1 rfl ?_
  refine Q_callVI (vs := []) (st := []) (pc' := 4) dX9_takesNumber_1 l_RX9_292 i108 (by decide) rfl rfl (Nat.le_of_ble_eq_true rfl) rfl (Nat.zero_le _) (Nat.zero_le _) rfl ?_
  refine CI.mono h (fun c1 r2 h => ?_)
  by_cases hc3 : r2 = 0
  · have h := h.1 hc3
    refine R_neS_if (tgt := 9) (pc' := 7) dX9_takesNumber_4 (by decide) hc3 rfl ?_
    refine R_iconst (pc' := 8) dX9_takesNumber_7 rfl ?_
    exact Q_zret dX9_takesNumber_8 rfl (Or.inl rfl) h
  · have h := h.2 hc3
    refine R_neD_if (tgt := 9) (pc' := 7) dX9_takesNumber_4 (by decide) hc3 h.1 rfl ?_
    have h := h.2
    refine R_aload_n (pc' := 10) dX9_takesNumber_9 rfl i108.1 rfl ?_
    refine R_iconst (pc' := 11) dX9_takesNumber_10 rfl ?_
    refine Q_putfi (J := 14) (pc' := 14) rfl dX9_takesNumber_11 l_RX9_53 i108 fd9_14.1 fd9_14.2.1 fd9_14.2.2.2.1 fd9_14.2.2.2.2 rfl (fun c4 hc4 => ?_)
    have h := h c4 hc4
    refine R_iconst (pc' := 15) dX9_takesNumber_14 rfl ?_
    refine R_istore_n (L' := [_, _]) (pc' := 16) dX9_takesNumber_15 (by decide) rfl rfl rfl ?_
    exact WP_wk (wk_e (wk_e wk_n)) h
set_option maxRecDepth 100000 in
theorem s_X9_takesNumber_16 {K : SK} {d : Nat} {c : ct} {Q : ct → Int → Prop} (a1 : Int) (h : (ir a1) ∧ (2 ≤ a1 → Q c 1) ∧ (¬ (2 ≤ a1) → CI K d mX9_isDigit [(2, 108)] c (fun c3 r4 => (r4 = 0 → Q c3 1) ∧ (¬ (r4 = 0) → ir r4 ∧ CI K d mX9_next [(2, 108)] c3 (fun c6 r7 => ∀ c8 : ct, c8 = up2 c6 108 14 (((10 * (c3 108 14)) + r7) - 48) → ∀ c9 : ct, c9 = up2 c8 108 13 ((c8 108 13) + 1) → WI K (d + 1) mX9_takesNumber 16 [(2, 108), (0, (a1 + 1))] [] c9 Q))))) : WI K (d + 1) mX9_takesNumber 16 [(2, 108), (0, a1)] [] c Q := by
  refine R_iload_n (pc' := 17) dX9_takesNumber_16 rfl rfl ?_
  refine R_iconst (pc' := 18) dX9_takesNumber_17 rfl ?_
  have hs2 := h.1
  have h := h.2
  refine R_icmp_ge (tgt := 63) (pc' := 21) dX9_takesNumber_18 (by decide) hs2 (ir_l (by decide) (by decide)) rfl (fun hc1 => ?_) (fun hc1 => ?_)
  · have h := h.1 hc1
    refine R_iconst (pc' := 64) dX9_takesNumber_63 rfl ?_
    exact Q_zret dX9_takesNumber_64 rfl (Or.inr rfl) h
  · have h := h.2 hc1
    refine R_aload_n (pc' := 22) dX9_takesNumber_21 rfl i108.1 rfl ?_
    refine Q_callVI (vs := []) (st := []) (pc' := 25) dX9_takesNumber_22 l_RX9_292 i108 (by decide) rfl rfl (Nat.le_of_ble_eq_true rfl) rfl (Nat.zero_le _) (Nat.zero_le _) rfl ?_
    refine CI.mono h (fun c3 r4 h => ?_)
    by_cases hc5 : r4 = 0
    · have h := h.1 hc5
      refine R_eqS_if (tgt := 63) (pc' := 28) dX9_takesNumber_25 (by decide) hc5 rfl ?_
      refine R_iconst (pc' := 64) dX9_takesNumber_63 rfl ?_
      exact Q_zret dX9_takesNumber_64 rfl (Or.inr rfl) h
    · have h := h.2 hc5
      refine R_eqD_if (tgt := 63) (pc' := 28) dX9_takesNumber_25 (by decide) hc5 h.1 rfl ?_
      have h := h.2
      refine R_aload_n (pc' := 29) dX9_takesNumber_28 rfl i108.1 rfl ?_
      refine R_bipush (pc' := 31) dX9_takesNumber_29 (by decide) rfl ?_
      refine R_aload_n (pc' := 32) dX9_takesNumber_31 rfl i108.1 rfl ?_
      refine Q_getfi (J := 14) (pc' := 35) rfl dX9_takesNumber_32 l_RX9_53 i108 fd9_14.1 fd9_14.2.1 fd9_14.2.2.1 rfl ?_
      refine R_imul (pc' := 36) dX9_takesNumber_35 rfl ?_
      refine R_aload_n (pc' := 37) dX9_takesNumber_36 rfl i108.1 rfl ?_
      refine Q_callVI (vs := []) (st := [(0, (10 * (c3 108 14))), (2, 108)]) (pc' := 40) dX9_takesNumber_37 l_RX9_285 i108 (by decide) rfl rfl (Nat.le_of_ble_eq_true rfl) rfl (Nat.zero_le _) (Nat.zero_le _) rfl ?_
      refine CI.mono h (fun c6 r7 h => ?_)
      refine R_iadd (pc' := 41) dX9_takesNumber_40 rfl ?_
      refine R_bipush (pc' := 43) dX9_takesNumber_41 (by decide) rfl ?_
      refine R_isub (pc' := 44) dX9_takesNumber_43 rfl ?_
      refine Q_putfi (J := 14) (pc' := 47) rfl dX9_takesNumber_44 l_RX9_53 i108 fd9_14.1 fd9_14.2.1 fd9_14.2.2.2.1 fd9_14.2.2.2.2 rfl (fun c8 hc8 => ?_)
      have h := h c8 hc8
      refine R_aload_n (pc' := 48) dX9_takesNumber_47 rfl i108.1 rfl ?_
      refine R_dup (pc' := 49) dX9_takesNumber_48 (by simp) rfl ?_
      refine Q_getfi (J := 13) (pc' := 52) rfl dX9_takesNumber_49 l_RX9_50 i108 fd9_13.1 fd9_13.2.1 fd9_13.2.2.1 rfl ?_
      refine R_iconst (pc' := 53) dX9_takesNumber_52 rfl ?_
      refine R_iadd (pc' := 54) dX9_takesNumber_53 rfl ?_
      refine Q_putfi (J := 13) (pc' := 57) rfl dX9_takesNumber_54 l_RX9_50 i108 fd9_13.1 fd9_13.2.1 fd9_13.2.2.2.1 fd9_13.2.2.2.2 rfl (fun c9 hc9 => ?_)
      have h := h c9 hc9
      refine R_iinc (L' := [_, _]) (pc' := 60) dX9_takesNumber_57 rfl (by decide) rfl rfl rfl ?_
      refine R_goto (tgt := 16) dX9_takesNumber_60 (by decide) ?_
      exact WP_wk (wk_e (wk_e wk_n)) h
theorem e_X9_takesNumber {K : SK} {d : Nat} {c : ct} {Q : ct → Int → Prop}  (h : WI K (d + 1) mX9_takesNumber 0 [(2, 108), (9, 0)] [] c Q) : CI K (d + 1) mX9_takesNumber [(2, 108)] c Q := CM_ofS (by decide) (Nat.le_of_ble_eq_true rfl) _ rfl h
set_option maxRecDepth 100000 in
theorem s_X9_emits_0 {K : SK} {d : Nat} {c : ct} {Q : ct → Prop} (a1 : Int) (h : ((0 ≤ (c 108 23) ∧ (c 108 23) < 600)) ∧ ∀ c1 : ct, c1 = up2 c 120 (c 108 23) a1 → ∀ c3 : ct, c3 = up2 c1 108 23 ((c1 108 23) + 1) → Q c3) : WV K (d + 1) mX9_emits 0 [(2, 108), (0, a1)] [] c Q := by
  refine R_aload_n (pc' := 1) dX9_emits_0 rfl i108.1 rfl ?_
  refine Q_getfr (v := 120) (J := 21) (pc' := 4) rfl dX9_emits_1 l_RX9_74 i108 fd9_21.1 fd9_21.2.1 fd9_21.2.2.1 fd9_21.2.2.2 f108_21 rfl ?_
  refine R_aload_n (pc' := 5) dX9_emits_4 rfl i108.1 rfl ?_
  refine Q_getfi (J := 23) (pc' := 8) rfl dX9_emits_5 l_RX9_80 i108 fd9_23.1 fd9_23.2.1 fd9_23.2.2.1 rfl ?_
  refine R_iload_n (pc' := 9) dX9_emits_8 rfl rfl ?_
  have hs2 := h.1
  have h := h.2
  refine Q_iastore (N := 600) (pc' := 10) rfl dX9_emits_9 i120 (by decide) hs2  rfl (fun c1 hc1 => ?_)
  have h := h c1 hc1
  refine R_aload_n (pc' := 11) dX9_emits_10 rfl i108.1 rfl ?_
  refine R_dup (pc' := 12) dX9_emits_11 (by simp) rfl ?_
  refine Q_getfi (J := 23) (pc' := 15) rfl dX9_emits_12 l_RX9_80 i108 fd9_23.1 fd9_23.2.1 fd9_23.2.2.1 rfl ?_
  refine R_iconst (pc' := 16) dX9_emits_15 rfl ?_
  refine R_iadd (pc' := 17) dX9_emits_16 rfl ?_
  refine Q_putfi (J := 23) (pc' := 20) rfl dX9_emits_17 l_RX9_80 i108 fd9_23.1 fd9_23.2.1 fd9_23.2.2.2.1 fd9_23.2.2.2.2 rfl (fun c3 hc3 => ?_)
  have h := h c3 hc3
  exact Q_ret dX9_emits_20 rfl h
theorem e_X9_emits {K : SK} {d : Nat} {c : ct} {Q : ct → Prop} (a1 : Int) (h : WV K (d + 1) mX9_emits 0 [(2, 108), (0, a1)] [] c Q) : CV K (d + 1) mX9_emits [(2, 108), (0, a1)] c Q := CM_ofS (by decide) (Nat.le_of_ble_eq_true rfl) _ rfl h
set_option maxRecDepth 100000 in
theorem s_X9_whole_0 {K : SK} {d : Nat} {c : ct} {Q : ct → Prop}  (h : (ir (c 108 24)) ∧ ((c 108 24) ≤ 0 → Q c) ∧ (¬ ((c 108 24) ≤ 0) → ((0 ≤ ((c 108 24) - 1) ∧ ((c 108 24) - 1) < 101)) ∧ ((c 121 ((c 108 24) - 1)) = 33 → CV K d mX9_emits [(2, 108), (0, (-33))] c (fun c5 => ∀ c7 : ct, c7 = up2 c5 108 24 ((c5 108 24) - 1) → ∀ c8 : ct, c8 = up2 c7 108 25 ((c7 108 25) - 1) → WV K (d + 1) mX9_whole 0 [(2, 108)] [] c8 Q)) ∧ (¬ ((c 121 ((c 108 24) - 1)) = 33) → ir (c 121 ((c 108 24) - 1)) ∧ Q c))) : WV K (d + 1) mX9_whole 0 [(2, 108)] [] c Q := by
  refine R_aload_n (pc' := 1) dX9_whole_0 rfl i108.1 rfl ?_
  refine Q_getfi (J := 24) (pc' := 4) rfl dX9_whole_1 l_RX9_83 i108 fd9_24.1 fd9_24.2.1 fd9_24.2.2.1 rfl ?_
  have hs2 := h.1
  have h := h.2
  refine R_if_le (tgt := 52) (pc' := 7) dX9_whole_4 (by decide) hs2  rfl (fun hc1 => ?_) (fun hc1 => ?_)
  · have h := h.1 hc1
    exact Q_ret dX9_whole_52 rfl h
  · have h := h.2 hc1
    refine R_aload_n (pc' := 8) dX9_whole_7 rfl i108.1 rfl ?_
    refine Q_getfr (v := 121) (J := 22) (pc' := 11) rfl dX9_whole_8 l_RX9_77 i108 fd9_22.1 fd9_22.2.1 fd9_22.2.2.1 fd9_22.2.2.2 f108_22 rfl ?_
    refine R_aload_n (pc' := 12) dX9_whole_11 rfl i108.1 rfl ?_
    refine Q_getfi (J := 24) (pc' := 15) rfl dX9_whole_12 l_RX9_83 i108 fd9_24.1 fd9_24.2.1 fd9_24.2.2.1 rfl ?_
    refine R_iconst (pc' := 16) dX9_whole_15 rfl ?_
    refine R_isub (pc' := 17) dX9_whole_16 rfl ?_
    have hs3 := h.1
    have h := h.2
    refine Q_iaload (N := 101) (pc' := 18) rfl dX9_whole_17 i121 (by decide) hs3 rfl ?_
    refine R_bipush (pc' := 20) dX9_whole_18 (by decide) rfl ?_
    by_cases hc4 : (c 121 ((c 108 24) - 1)) = 33
    · have h := h.1 hc4
      refine R_neS_ic (tgt := 52) (pc' := 23) dX9_whole_20 (by decide) hc4 rfl ?_
      refine R_aload_n (pc' := 24) dX9_whole_23 rfl i108.1 rfl ?_
      refine R_bipush (pc' := 26) dX9_whole_24 (by decide) rfl ?_
      refine Q_callVV (vs := [(0, (-33))]) (st := []) (pc' := 29) dX9_whole_26 l_RX9_296 i108 (by decide) rfl rfl (Nat.le_of_ble_eq_true rfl) rfl (Nat.zero_le _) (Nat.zero_le _) rfl ?_
      refine CV.mono h (fun c5 h => ?_)
      refine R_aload_n (pc' := 30) dX9_whole_29 rfl i108.1 rfl ?_
      refine R_dup (pc' := 31) dX9_whole_30 (by simp) rfl ?_
      refine Q_getfi (J := 24) (pc' := 34) rfl dX9_whole_31 l_RX9_83 i108 fd9_24.1 fd9_24.2.1 fd9_24.2.2.1 rfl ?_
      refine R_iconst (pc' := 35) dX9_whole_34 rfl ?_
      refine R_isub (pc' := 36) dX9_whole_35 rfl ?_
      refine Q_putfi (J := 24) (pc' := 39) rfl dX9_whole_36 l_RX9_83 i108 fd9_24.1 fd9_24.2.1 fd9_24.2.2.2.1 fd9_24.2.2.2.2 rfl (fun c7 hc7 => ?_)
      have h := h c7 hc7
      refine R_aload_n (pc' := 40) dX9_whole_39 rfl i108.1 rfl ?_
      refine R_dup (pc' := 41) dX9_whole_40 (by simp) rfl ?_
      refine Q_getfi (J := 25) (pc' := 44) rfl dX9_whole_41 l_RX9_86 i108 fd9_25.1 fd9_25.2.1 fd9_25.2.2.1 rfl ?_
      refine R_iconst (pc' := 45) dX9_whole_44 rfl ?_
      refine R_isub (pc' := 46) dX9_whole_45 rfl ?_
      refine Q_putfi (J := 25) (pc' := 49) rfl dX9_whole_46 l_RX9_86 i108 fd9_25.1 fd9_25.2.1 fd9_25.2.2.2.1 fd9_25.2.2.2.2 rfl (fun c8 hc8 => ?_)
      have h := h c8 hc8
      refine R_goto (tgt := 0) dX9_whole_49 (by decide) ?_
      exact WP_wk (wk_e wk_n) h
    · have h := h.2 hc4
      refine R_neD_ic (tgt := 52) (pc' := 23) dX9_whole_20 (by decide) hc4 ⟨h.1, ir_l (by decide) (by decide)⟩ rfl ?_
      have h := h.2
      exact Q_ret dX9_whole_52 rfl h
theorem e_X9_whole {K : SK} {d : Nat} {c : ct} {Q : ct → Prop}  (h : WV K (d + 1) mX9_whole 0 [(2, 108)] [] c Q) : CV K (d + 1) mX9_whole [(2, 108)] c Q := CM_ofS (by decide) (Nat.le_of_ble_eq_true rfl) _ rfl (WP_wk (wk_e wk_n) h)
set_option maxRecDepth 100000 in
theorem s_X9_settle_0 {K : SK} {d : Nat} {c : ct} {Q : ct → Prop} (a1 : Int) (h : (ir (c 108 24)) ∧ ((c 108 24) ≤ 0 → Q c) ∧ (¬ ((c 108 24) ≤ 0) → ((0 ≤ ((c 108 24) - 1) ∧ ((c 108 24) - 1) < 101)) ∧ ((c 121 ((c 108 24) - 1)) = 38 → WV K (d + 1) mX9_settle 45 [(2, 108), (0, a1)] [] c Q) ∧ (¬ ((c 121 ((c 108 24) - 1)) = 38) → ir (c 121 ((c 108 24) - 1)) ∧ ((0 ≤ ((c 108 24) - 1) ∧ ((c 108 24) - 1) < 101)) ∧ ((c 121 ((c 108 24) - 1)) = 124 → (a1 = 38 → Q c) ∧ (¬ (a1 = 38) → ir a1 ∧ WV K (d + 1) mX9_settle 45 [(2, 108), (0, a1)] [] c Q)) ∧ (¬ ((c 121 ((c 108 24) - 1)) = 124) → ir (c 121 ((c 108 24) - 1)) ∧ Q c)))) : WV K (d + 1) mX9_settle 0 [(2, 108), (0, a1)] [] c Q := by
  refine R_aload_n (pc' := 1) dX9_settle_0 rfl i108.1 rfl ?_
  refine Q_getfi (J := 24) (pc' := 4) rfl dX9_settle_1 l_RX9_83 i108 fd9_24.1 fd9_24.2.1 fd9_24.2.2.1 rfl ?_
  have hs2 := h.1
  have h := h.2
  refine R_if_le (tgt := 72) (pc' := 7) dX9_settle_4 (by decide) hs2  rfl (fun hc1 => ?_) (fun hc1 => ?_)
  · have h := h.1 hc1
    exact Q_ret dX9_settle_72 rfl h
  · have h := h.2 hc1
    refine R_aload_n (pc' := 8) dX9_settle_7 rfl i108.1 rfl ?_
    refine Q_getfr (v := 121) (J := 22) (pc' := 11) rfl dX9_settle_8 l_RX9_77 i108 fd9_22.1 fd9_22.2.1 fd9_22.2.2.1 fd9_22.2.2.2 f108_22 rfl ?_
    refine R_aload_n (pc' := 12) dX9_settle_11 rfl i108.1 rfl ?_
    refine Q_getfi (J := 24) (pc' := 15) rfl dX9_settle_12 l_RX9_83 i108 fd9_24.1 fd9_24.2.1 fd9_24.2.2.1 rfl ?_
    refine R_iconst (pc' := 16) dX9_settle_15 rfl ?_
    refine R_isub (pc' := 17) dX9_settle_16 rfl ?_
    have hs3 := h.1
    have h := h.2
    refine Q_iaload (N := 101) (pc' := 18) rfl dX9_settle_17 i121 (by decide) hs3 rfl ?_
    refine R_bipush (pc' := 20) dX9_settle_18 (by decide) rfl ?_
    by_cases hc4 : (c 121 ((c 108 24) - 1)) = 38
    · have h := h.1 hc4
      refine R_eqS_ic (tgt := 45) (pc' := 23) dX9_settle_20 (by decide) hc4 rfl ?_
      exact WP_wk (wk_e (wk_e wk_n)) h
    · have h := h.2 hc4
      refine R_eqD_ic (tgt := 45) (pc' := 23) dX9_settle_20 (by decide) hc4 ⟨h.1, ir_l (by decide) (by decide)⟩ rfl ?_
      have h := h.2
      refine R_aload_n (pc' := 24) dX9_settle_23 rfl i108.1 rfl ?_
      refine Q_getfr (v := 121) (J := 22) (pc' := 27) rfl dX9_settle_24 l_RX9_77 i108 fd9_22.1 fd9_22.2.1 fd9_22.2.2.1 fd9_22.2.2.2 f108_22 rfl ?_
      refine R_aload_n (pc' := 28) dX9_settle_27 rfl i108.1 rfl ?_
      refine Q_getfi (J := 24) (pc' := 31) rfl dX9_settle_28 l_RX9_83 i108 fd9_24.1 fd9_24.2.1 fd9_24.2.2.1 rfl ?_
      refine R_iconst (pc' := 32) dX9_settle_31 rfl ?_
      refine R_isub (pc' := 33) dX9_settle_32 rfl ?_
      have hs5 := h.1
      have h := h.2
      refine Q_iaload (N := 101) (pc' := 34) rfl dX9_settle_33 i121 (by decide) hs5 rfl ?_
      refine R_bipush (pc' := 36) dX9_settle_34 (by decide) rfl ?_
      by_cases hc6 : (c 121 ((c 108 24) - 1)) = 124
      · have h := h.1 hc6
        refine R_neS_ic (tgt := 72) (pc' := 39) dX9_settle_36 (by decide) hc6 rfl ?_
        refine R_iload_n (pc' := 40) dX9_settle_39 rfl rfl ?_
        refine R_bipush (pc' := 42) dX9_settle_40 (by decide) rfl ?_
        by_cases hc7 : a1 = 38
        · have h := h.1 hc7
          refine R_eqS_ic (tgt := 72) (pc' := 45) dX9_settle_42 (by decide) hc7 rfl ?_
          exact Q_ret dX9_settle_72 rfl h
        · have h := h.2 hc7
          refine R_eqD_ic (tgt := 72) (pc' := 45) dX9_settle_42 (by decide) hc7 ⟨h.1, ir_l (by decide) (by decide)⟩ rfl ?_
          have h := h.2
          exact WP_wk (wk_e (wk_e wk_n)) h
      · have h := h.2 hc6
        refine R_neD_ic (tgt := 72) (pc' := 39) dX9_settle_36 (by decide) hc6 ⟨h.1, ir_l (by decide) (by decide)⟩ rfl ?_
        have h := h.2
        exact Q_ret dX9_settle_72 rfl h
set_option maxRecDepth 100000 in
theorem s_X9_settle_45 {K : SK} {d : Nat} {c : ct} {Q : ct → Prop} (a1 : Int) (h : ∀ c1 : ct, c1 = up2 c 108 24 ((c 108 24) - 1) → ((0 ≤ (c1 108 24) ∧ (c1 108 24) < 101)) ∧ CV K d mX9_emits [(2, 108), (0, (-(c1 121 (c1 108 24))))] c1 (fun c3 => WV K (d + 1) mX9_settle 0 [(2, 108), (0, a1)] [] c3 Q)) : WV K (d + 1) mX9_settle 45 [(2, 108), (0, a1)] [] c Q := by
  refine R_aload_n (pc' := 46) dX9_settle_45 rfl i108.1 rfl ?_
  refine R_dup (pc' := 47) dX9_settle_46 (by simp) rfl ?_
  refine Q_getfi (J := 24) (pc' := 50) rfl dX9_settle_47 l_RX9_83 i108 fd9_24.1 fd9_24.2.1 fd9_24.2.2.1 rfl ?_
  refine R_iconst (pc' := 51) dX9_settle_50 rfl ?_
  refine R_isub (pc' := 52) dX9_settle_51 rfl ?_
  refine Q_putfi (J := 24) (pc' := 55) rfl dX9_settle_52 l_RX9_83 i108 fd9_24.1 fd9_24.2.1 fd9_24.2.2.2.1 fd9_24.2.2.2.2 rfl (fun c1 hc1 => ?_)
  have h := h c1 hc1
  refine R_aload_n (pc' := 56) dX9_settle_55 rfl i108.1 rfl ?_
  refine R_aload_n (pc' := 57) dX9_settle_56 rfl i108.1 rfl ?_
  refine Q_getfr (v := 121) (J := 22) (pc' := 60) rfl dX9_settle_57 l_RX9_77 i108 fd9_22.1 fd9_22.2.1 fd9_22.2.2.1 fd9_22.2.2.2 f108_22 rfl ?_
  refine R_aload_n (pc' := 61) dX9_settle_60 rfl i108.1 rfl ?_
  refine Q_getfi (J := 24) (pc' := 64) rfl dX9_settle_61 l_RX9_83 i108 fd9_24.1 fd9_24.2.1 fd9_24.2.2.1 rfl ?_
  have hs2 := h.1
  have h := h.2
  refine Q_iaload (N := 101) (pc' := 65) rfl dX9_settle_64 i121 (by decide) hs2 rfl ?_
  refine R_ineg (pc' := 66) dX9_settle_65 rfl ?_
  refine Q_callVV (vs := [(0, (-(c1 121 (c1 108 24))))]) (st := []) (pc' := 69) dX9_settle_66 l_RX9_296 i108 (by decide) rfl rfl (Nat.le_of_ble_eq_true rfl) rfl (Nat.zero_le _) (Nat.zero_le _) rfl ?_
  refine CV.mono h (fun c3 h => ?_)
  refine R_goto (tgt := 0) dX9_settle_69 (by decide) ?_
  exact WP_wk (wk_e (wk_e wk_n)) h
theorem e_X9_settle {K : SK} {d : Nat} {c : ct} {Q : ct → Prop} (a1 : Int) (h : WV K (d + 1) mX9_settle 0 [(2, 108), (0, a1)] [] c Q) : CV K (d + 1) mX9_settle [(2, 108), (0, a1)] c Q := CM_ofS (by decide) (Nat.le_of_ble_eq_true rfl) _ rfl (WP_wk (wk_e (wk_e wk_n)) h)
set_option maxRecDepth 100000 in
theorem s_X9_place_0 {K : SK} {d : Nat} {c : ct} {Q : ct → Int → Prop} (a1 : Int) (h : ir a1 ∧ (a1 = 106 → Q c 3) ∧ (a1 = 107 → Q c 2) ∧ (a1 = 108 → Q c (-1)) ∧ (a1 = 109 → Q c (-1)) ∧ (a1 = 110 → Q c (-1)) ∧ (a1 = 111 → Q c (-1)) ∧ (a1 = 112 → Q c 0) ∧ (a1 = 113 → Q c 1) ∧ (a1 = 114 → Q c (-1)) ∧ (a1 = 115 → Q c (-1)) ∧ (a1 = 116 → Q c (-1)) ∧ (a1 = 117 → Q c (-1)) ∧ (a1 = 118 → Q c 4) ∧ (a1 = 119 → Q c (-1)) ∧ (a1 = 120 → Q c (-1)) ∧ (a1 = 121 → Q c 5) ∧ ((a1 < 106 ∨ 121 < a1) → Q c (-1))) : WI K (d + 1) mX9_place 0 [(2, 108), (0, a1)] [] c Q := by
  refine R_iload_n (pc' := 1) dX9_place_0 rfl rfl ?_
  have hs0 := h.1
  have h := h.2
  rcases (show a1 = 106 ∨ a1 = 107 ∨ a1 = 108 ∨ a1 = 109 ∨ a1 = 110 ∨ a1 = 111 ∨ a1 = 112 ∨ a1 = 113 ∨ a1 = 114 ∨ a1 = 115 ∨ a1 = 116 ∨ a1 = 117 ∨ a1 = 118 ∨ a1 = 119 ∨ a1 = 120 ∨ a1 = 121 ∨ (a1 < 106 ∨ 121 < a1) by omega) with hk | hk | hk | hk | hk | hk | hk | hk | hk | hk | hk | hk | hk | hk | hk | hk | hk
  · have h := h.1 hk
    refine R_tableAt (tgt := 86) 106 hk dX9_place_1 (ir_l (by decide) (by decide)) (by decide) rfl (by decide) ?_
    refine R_iconst (pc' := 87) dX9_place_86 rfl ?_
    exact Q_iret dX9_place_87 rfl h
  · have h := h.2.1 hk
    refine R_tableAt (tgt := 84) 107 hk dX9_place_1 (ir_l (by decide) (by decide)) (by decide) rfl (by decide) ?_
    refine R_iconst (pc' := 85) dX9_place_84 rfl ?_
    exact Q_iret dX9_place_85 rfl h
  · have h := h.2.2.1 hk
    refine R_tableAt (tgt := 92) 108 hk dX9_place_1 (ir_l (by decide) (by decide)) (by decide) rfl (by decide) ?_
    refine R_iconst (pc' := 93) dX9_place_92 rfl ?_
    exact Q_iret dX9_place_93 rfl h
  · have h := h.2.2.2.1 hk
    refine R_tableAt (tgt := 92) 109 hk dX9_place_1 (ir_l (by decide) (by decide)) (by decide) rfl (by decide) ?_
    refine R_iconst (pc' := 93) dX9_place_92 rfl ?_
    exact Q_iret dX9_place_93 rfl h
  · have h := h.2.2.2.2.1 hk
    refine R_tableAt (tgt := 92) 110 hk dX9_place_1 (ir_l (by decide) (by decide)) (by decide) rfl (by decide) ?_
    refine R_iconst (pc' := 93) dX9_place_92 rfl ?_
    exact Q_iret dX9_place_93 rfl h
  · have h := h.2.2.2.2.2.1 hk
    refine R_tableAt (tgt := 92) 111 hk dX9_place_1 (ir_l (by decide) (by decide)) (by decide) rfl (by decide) ?_
    refine R_iconst (pc' := 93) dX9_place_92 rfl ?_
    exact Q_iret dX9_place_93 rfl h
  · have h := h.2.2.2.2.2.2.1 hk
    refine R_tableAt (tgt := 80) 112 hk dX9_place_1 (ir_l (by decide) (by decide)) (by decide) rfl (by decide) ?_
    refine R_iconst (pc' := 81) dX9_place_80 rfl ?_
    exact Q_iret dX9_place_81 rfl h
  · have h := h.2.2.2.2.2.2.2.1 hk
    refine R_tableAt (tgt := 82) 113 hk dX9_place_1 (ir_l (by decide) (by decide)) (by decide) rfl (by decide) ?_
    refine R_iconst (pc' := 83) dX9_place_82 rfl ?_
    exact Q_iret dX9_place_83 rfl h
  · have h := h.2.2.2.2.2.2.2.2.1 hk
    refine R_tableAt (tgt := 92) 114 hk dX9_place_1 (ir_l (by decide) (by decide)) (by decide) rfl (by decide) ?_
    refine R_iconst (pc' := 93) dX9_place_92 rfl ?_
    exact Q_iret dX9_place_93 rfl h
  · have h := h.2.2.2.2.2.2.2.2.2.1 hk
    refine R_tableAt (tgt := 92) 115 hk dX9_place_1 (ir_l (by decide) (by decide)) (by decide) rfl (by decide) ?_
    refine R_iconst (pc' := 93) dX9_place_92 rfl ?_
    exact Q_iret dX9_place_93 rfl h
  · have h := h.2.2.2.2.2.2.2.2.2.2.1 hk
    refine R_tableAt (tgt := 92) 116 hk dX9_place_1 (ir_l (by decide) (by decide)) (by decide) rfl (by decide) ?_
    refine R_iconst (pc' := 93) dX9_place_92 rfl ?_
    exact Q_iret dX9_place_93 rfl h
  · have h := h.2.2.2.2.2.2.2.2.2.2.2.1 hk
    refine R_tableAt (tgt := 92) 117 hk dX9_place_1 (ir_l (by decide) (by decide)) (by decide) rfl (by decide) ?_
    refine R_iconst (pc' := 93) dX9_place_92 rfl ?_
    exact Q_iret dX9_place_93 rfl h
  · have h := h.2.2.2.2.2.2.2.2.2.2.2.2.1 hk
    refine R_tableAt (tgt := 88) 118 hk dX9_place_1 (ir_l (by decide) (by decide)) (by decide) rfl (by decide) ?_
    refine R_iconst (pc' := 89) dX9_place_88 rfl ?_
    exact Q_iret dX9_place_89 rfl h
  · have h := h.2.2.2.2.2.2.2.2.2.2.2.2.2.1 hk
    refine R_tableAt (tgt := 92) 119 hk dX9_place_1 (ir_l (by decide) (by decide)) (by decide) rfl (by decide) ?_
    refine R_iconst (pc' := 93) dX9_place_92 rfl ?_
    exact Q_iret dX9_place_93 rfl h
  · have h := h.2.2.2.2.2.2.2.2.2.2.2.2.2.2.1 hk
    refine R_tableAt (tgt := 92) 120 hk dX9_place_1 (ir_l (by decide) (by decide)) (by decide) rfl (by decide) ?_
    refine R_iconst (pc' := 93) dX9_place_92 rfl ?_
    exact Q_iret dX9_place_93 rfl h
  · have h := h.2.2.2.2.2.2.2.2.2.2.2.2.2.2.2.1 hk
    refine R_tableAt (tgt := 90) 121 hk dX9_place_1 (ir_l (by decide) (by decide)) (by decide) rfl (by decide) ?_
    refine R_iconst (pc' := 91) dX9_place_90 rfl ?_
    exact Q_iret dX9_place_91 rfl h
  · have h := h.2.2.2.2.2.2.2.2.2.2.2.2.2.2.2.2 hk
    refine R_tableOut (tgt := 92) dX9_place_1 hs0 hk (by decide) ?_
    refine R_iconst (pc' := 93) dX9_place_92 rfl ?_
    exact Q_iret dX9_place_93 rfl h
theorem e_X9_place {K : SK} {d : Nat} {c : ct} {Q : ct → Int → Prop} (a1 : Int) (h : WI K (d + 1) mX9_place 0 [(2, 108), (0, a1)] [] c Q) : CI K (d + 1) mX9_place [(2, 108), (0, a1)] c Q := CM_ofS (by decide) (Nat.le_of_ble_eq_true rfl) _ rfl h
set_option maxRecDepth 100000 in
theorem s_X9_takesTest_0 {K : SK} {d : Nat} {c : ct} {Q : ct → Int → Prop}  (h : CI K d mX9_next [(2, 108)] c (fun c1 r2 => CI K d mX9_place [(2, 108), (0, r2)] c1 (fun c3 r4 => (ir r4) ∧ (0 ≤ r4 → ∀ c7 : ct, c7 = up2 c3 108 13 ((c3 108 13) + 1) → CI K d mX9_next [(2, 108)] c7 (fun c8 r9 => CI K d mX9_in [(2, 108), (0, r9), (0, 60), (0, 62)] c8 (fun c10 r11 => (r11 = 0 → Q c10 0) ∧ (¬ (r11 = 0) → ir r11 ∧ ∀ c13 : ct, c13 = up2 c10 108 13 ((c10 108 13) + 1) → CI K d mX9_takesNumber [(2, 108)] c13 (fun c14 r15 => (r15 = 0 → Q c14 0) ∧ (¬ (r15 = 0) → ir r15 ∧ CV K d mX9_emits [(2, 108), (0, (((1000 * r4) + (100 * (r9 - 60))) + (c14 108 14)))] c14 (fun c17 => CV K d mX9_whole [(2, 108)] c17 (fun c19 => Q c19 1)))))))) ∧ (¬ (0 ≤ r4) → Q c3 0)))) : WI K (d + 1) mX9_takesTest 0 [(2, 108), (9, 0), (9, 0)] [] c Q := by
  refine R_aload_n (pc' := 1) dX9_takesTest_0 rfl i108.1 rfl ?_
  refine R_aload_n (pc' := 2) dX9_takesTest_1 rfl i108.1 rfl ?_
  refine Q_callVI (vs := []) (st := [(2, 108)]) (pc' := 5) dX9_takesTest_2 l_RX9_285 i108 (by decide) rfl rfl (Nat.le_of_ble_eq_true rfl) rfl (Nat.zero_le _) (Nat.zero_le _) rfl ?_
  refine CI.mono h (fun c1 r2 h => ?_)
  refine Q_callVI (vs := [(0, r2)]) (st := []) (pc' := 8) dX9_takesTest_5 l_RX9_299 i108 (by decide) rfl rfl (Nat.le_of_ble_eq_true rfl) rfl (Nat.zero_le _) (Nat.zero_le _) rfl ?_
  refine CI.mono h (fun c3 r4 h => ?_)
  refine R_istore_n (L' := [_, _, _]) (pc' := 9) dX9_takesTest_8 (by decide) rfl rfl rfl ?_
  refine R_iload_n (pc' := 10) dX9_takesTest_9 rfl rfl ?_
  have hs6 := h.1
  have h := h.2
  refine R_if_ge (tgt := 15) (pc' := 13) dX9_takesTest_10 (by decide) hs6  rfl (fun hc5 => ?_) (fun hc5 => ?_)
  · have h := h.1 hc5
    refine R_aload_n (pc' := 16) dX9_takesTest_15 rfl i108.1 rfl ?_
    refine R_dup (pc' := 17) dX9_takesTest_16 (by simp) rfl ?_
    refine Q_getfi (J := 13) (pc' := 20) rfl dX9_takesTest_17 l_RX9_50 i108 fd9_13.1 fd9_13.2.1 fd9_13.2.2.1 rfl ?_
    refine R_iconst (pc' := 21) dX9_takesTest_20 rfl ?_
    refine R_iadd (pc' := 22) dX9_takesTest_21 rfl ?_
    refine Q_putfi (J := 13) (pc' := 25) rfl dX9_takesTest_22 l_RX9_50 i108 fd9_13.1 fd9_13.2.1 fd9_13.2.2.2.1 fd9_13.2.2.2.2 rfl (fun c7 hc7 => ?_)
    have h := h c7 hc7
    refine R_aload_n (pc' := 26) dX9_takesTest_25 rfl i108.1 rfl ?_
    refine Q_callVI (vs := []) (st := []) (pc' := 29) dX9_takesTest_26 l_RX9_285 i108 (by decide) rfl rfl (Nat.le_of_ble_eq_true rfl) rfl (Nat.zero_le _) (Nat.zero_le _) rfl ?_
    refine CI.mono h (fun c8 r9 h => ?_)
    refine R_istore_n (L' := [_, _, _]) (pc' := 30) dX9_takesTest_29 (by decide) rfl rfl rfl ?_
    refine R_aload_n (pc' := 31) dX9_takesTest_30 rfl i108.1 rfl ?_
    refine R_iload_n (pc' := 32) dX9_takesTest_31 rfl rfl ?_
    refine R_bipush (pc' := 34) dX9_takesTest_32 (by decide) rfl ?_
    refine R_bipush (pc' := 36) dX9_takesTest_34 (by decide) rfl ?_
    refine Q_callVI (vs := [(0, r9), (0, 60), (0, 62)]) (st := []) (pc' := 39) dX9_takesTest_36 l_RX9_252 i108 (by decide) rfl rfl (Nat.le_of_ble_eq_true rfl) rfl (Nat.zero_le _) (Nat.zero_le _) rfl ?_
    refine CI.mono h (fun c10 r11 h => ?_)
    by_cases hc12 : r11 = 0
    · have h := h.1 hc12
      refine R_neS_if (tgt := 44) (pc' := 42) dX9_takesTest_39 (by decide) hc12 rfl ?_
      refine R_iconst (pc' := 43) dX9_takesTest_42 rfl ?_
      exact Q_zret dX9_takesTest_43 rfl (Or.inl rfl) h
    · have h := h.2 hc12
      refine R_neD_if (tgt := 44) (pc' := 42) dX9_takesTest_39 (by decide) hc12 h.1 rfl ?_
      have h := h.2
      refine R_aload_n (pc' := 45) dX9_takesTest_44 rfl i108.1 rfl ?_
      refine R_dup (pc' := 46) dX9_takesTest_45 (by simp) rfl ?_
      refine Q_getfi (J := 13) (pc' := 49) rfl dX9_takesTest_46 l_RX9_50 i108 fd9_13.1 fd9_13.2.1 fd9_13.2.2.1 rfl ?_
      refine R_iconst (pc' := 50) dX9_takesTest_49 rfl ?_
      refine R_iadd (pc' := 51) dX9_takesTest_50 rfl ?_
      refine Q_putfi (J := 13) (pc' := 54) rfl dX9_takesTest_51 l_RX9_50 i108 fd9_13.1 fd9_13.2.1 fd9_13.2.2.2.1 fd9_13.2.2.2.2 rfl (fun c13 hc13 => ?_)
      have h := h c13 hc13
      refine R_aload_n (pc' := 55) dX9_takesTest_54 rfl i108.1 rfl ?_
      refine Q_callVI (vs := []) (st := []) (pc' := 58) dX9_takesTest_55 l_RX9_302 i108 (by decide) rfl rfl (Nat.le_of_ble_eq_true rfl) rfl (Nat.zero_le _) (Nat.zero_le _) rfl ?_
      refine CI.mono h (fun c14 r15 h => ?_)
      by_cases hc16 : r15 = 0
      · have h := h.1 hc16
        refine R_neS_if (tgt := 63) (pc' := 61) dX9_takesTest_58 (by decide) hc16 rfl ?_
        refine R_iconst (pc' := 62) dX9_takesTest_61 rfl ?_
        exact Q_zret dX9_takesTest_62 rfl (Or.inl rfl) h
      · have h := h.2 hc16
        refine R_neD_if (tgt := 63) (pc' := 61) dX9_takesTest_58 (by decide) hc16 h.1 rfl ?_
        have h := h.2
        refine R_aload_n (pc' := 64) dX9_takesTest_63 rfl i108.1 rfl ?_
        refine R_sipush (pc' := 67) dX9_takesTest_64 (by decide) rfl ?_
        refine R_iload_n (pc' := 68) dX9_takesTest_67 rfl rfl ?_
        refine R_imul (pc' := 69) dX9_takesTest_68 rfl ?_
        refine R_bipush (pc' := 71) dX9_takesTest_69 (by decide) rfl ?_
        refine R_iload_n (pc' := 72) dX9_takesTest_71 rfl rfl ?_
        refine R_bipush (pc' := 74) dX9_takesTest_72 (by decide) rfl ?_
        refine R_isub (pc' := 75) dX9_takesTest_74 rfl ?_
        refine R_imul (pc' := 76) dX9_takesTest_75 rfl ?_
        refine R_iadd (pc' := 77) dX9_takesTest_76 rfl ?_
        refine R_aload_n (pc' := 78) dX9_takesTest_77 rfl i108.1 rfl ?_
        refine Q_getfi (J := 14) (pc' := 81) rfl dX9_takesTest_78 l_RX9_53 i108 fd9_14.1 fd9_14.2.1 fd9_14.2.2.1 rfl ?_
        refine R_iadd (pc' := 82) dX9_takesTest_81 rfl ?_
        refine Q_callVV (vs := [(0, (((1000 * r4) + (100 * (r9 - 60))) + (c14 108 14)))]) (st := []) (pc' := 85) dX9_takesTest_82 l_RX9_296 i108 (by decide) rfl rfl (Nat.le_of_ble_eq_true rfl) rfl (Nat.zero_le _) (Nat.zero_le _) rfl ?_
        refine CV.mono h (fun c17 h => ?_)
        refine R_aload_n (pc' := 86) dX9_takesTest_85 rfl i108.1 rfl ?_
        refine Q_callVV (vs := []) (st := []) (pc' := 89) dX9_takesTest_86 l_RX9_305 i108 (by decide) rfl rfl (Nat.le_of_ble_eq_true rfl) rfl (Nat.zero_le _) (Nat.zero_le _) rfl ?_
        refine CV.mono h (fun c19 h => ?_)
        refine R_iconst (pc' := 90) dX9_takesTest_89 rfl ?_
        exact Q_zret dX9_takesTest_90 rfl (Or.inr rfl) h
  · have h := h.2 hc5
    refine R_iconst (pc' := 14) dX9_takesTest_13 rfl ?_
    exact Q_zret dX9_takesTest_14 rfl (Or.inl rfl) h
theorem e_X9_takesTest {K : SK} {d : Nat} {c : ct} {Q : ct → Int → Prop}  (h : WI K (d + 1) mX9_takesTest 0 [(2, 108), (9, 0), (9, 0)] [] c Q) : CI K (d + 1) mX9_takesTest [(2, 108)] c Q := CM_ofS (by decide) (Nat.le_of_ble_eq_true rfl) _ rfl h
set_option maxRecDepth 100000 in
theorem s_X9_takesE_0 {K : SK} {d : Nat} {c : ct} {Q : ct → Int → Prop} (a1 : Int) (h : ∀ c1 : ct, c1 = up2 c 108 24 0 → ∀ c2 : ct, c2 = up2 c1 108 25 0 → ((0 ≤ a1 ∧ a1 < 60)) ∧ ∀ c3 : ct, c3 = up2 c2 118 a1 (c2 108 23) → WI K (d + 1) mX9_takesE 22 [(2, 108), (0, a1), (0, 1), (9, 0)] [] c3 Q) : WI K (d + 1) mX9_takesE 0 [(2, 108), (0, a1), (9, 0), (9, 0)] [] c Q := by
  refine R_aload_n (pc' := 1) dX9_takesE_0 rfl i108.1 rfl ?_
  refine R_iconst (pc' := 2) dX9_takesE_1 rfl ?_
  refine Q_putfi (J := 24) (pc' := 5) rfl dX9_takesE_2 l_RX9_83 i108 fd9_24.1 fd9_24.2.1 fd9_24.2.2.2.1 fd9_24.2.2.2.2 rfl (fun c1 hc1 => ?_)
  have h := h c1 hc1
  refine R_aload_n (pc' := 6) dX9_takesE_5 rfl i108.1 rfl ?_
  refine R_iconst (pc' := 7) dX9_takesE_6 rfl ?_
  refine Q_putfi (J := 25) (pc' := 10) rfl dX9_takesE_7 l_RX9_86 i108 fd9_25.1 fd9_25.2.1 fd9_25.2.2.2.1 fd9_25.2.2.2.2 rfl (fun c2 hc2 => ?_)
  have h := h c2 hc2
  refine R_aload_n (pc' := 11) dX9_takesE_10 rfl i108.1 rfl ?_
  refine Q_getfr (v := 118) (J := 19) (pc' := 14) rfl dX9_takesE_11 l_RX9_68 i108 fd9_19.1 fd9_19.2.1 fd9_19.2.2.1 fd9_19.2.2.2 f108_19 rfl ?_
  refine R_iload_n (pc' := 15) dX9_takesE_14 rfl rfl ?_
  refine R_aload_n (pc' := 16) dX9_takesE_15 rfl i108.1 rfl ?_
  refine Q_getfi (J := 23) (pc' := 19) rfl dX9_takesE_16 l_RX9_80 i108 fd9_23.1 fd9_23.2.1 fd9_23.2.2.1 rfl ?_
  have hs4 := h.1
  have h := h.2
  refine Q_iastore (N := 60) (pc' := 20) rfl dX9_takesE_19 i118 (by decide) hs4  rfl (fun c3 hc3 => ?_)
  have h := h c3 hc3
  refine R_iconst (pc' := 21) dX9_takesE_20 rfl ?_
  refine R_istore_n (L' := [_, _, _, _]) (pc' := 22) dX9_takesE_21 (by decide) rfl rfl rfl ?_
  exact WP_wk (wk_e (wk_e (wk_e (wk_u wk_n)))) h
set_option maxRecDepth 100000 in
theorem s_X9_takesE_22 {K : SK} {d : Nat} {c : ct} {Q : ct → Int → Prop} (a1 : Int) (a2 : Int) (h : CI K d mX9_next [(2, 108)] c (fun c1 r2 => (a2 = 0 → (r2 = 38 → WI K (d + 1) mX9_takesE 122 [(2, 108), (0, a1), (9, 0), (0, r2)] [] c1 Q) ∧ (¬ (r2 = 38) → ir r2 ∧ (r2 = 124 → WI K (d + 1) mX9_takesE 122 [(2, 108), (0, a1), (9, 0), (0, r2)] [] c1 Q) ∧ (¬ (r2 = 124) → ir r2 ∧ CV K d mX9_settle [(2, 108), (0, 124)] c1 (fun c6 => ((0 ≤ a1 ∧ a1 < 60)) ∧ ∀ c8 : ct, c8 = up2 c6 119 a1 (c6 108 23) → ((c8 108 24) = 0 → Q c8 1) ∧ (¬ ((c8 108 24) = 0) → ir (c8 108 24) ∧ (r2 = 41 → ∀ c12 : ct, c12 = up2 c8 108 24 ((c8 108 24) - 1) → ∀ c13 : ct, c13 = up2 c12 108 25 ((c12 108 25) - 1) → ∀ c14 : ct, c14 = up2 c13 108 13 ((c13 108 13) + 1) → CV K d mX9_whole [(2, 108)] c14 (fun c15 => WI K (d + 1) mX9_takesE 22 [(2, 108), (0, a1), (0, a2), (9, 0)] [] c15 Q)) ∧ (¬ (r2 = 41) → ir r2 ∧ Q c8 0)))))) ∧ (¬ (a2 = 0) → ir a2 ∧ (r2 = 33 → WI K (d + 1) mX9_takesE 43 [(2, 108), (0, a1), (0, a2), (0, r2)] [] c1 Q) ∧ (¬ (r2 = 33) → ir r2 ∧ (r2 = 40 → WI K (d + 1) mX9_takesE 43 [(2, 108), (0, a1), (0, a2), (0, r2)] [] c1 Q) ∧ (¬ (r2 = 40) → ir r2 ∧ CI K d mX9_takesTest [(2, 108)] c1 (fun c19 r20 => (r20 = 0 → Q c19 0) ∧ (¬ (r20 = 0) → ir r20 ∧ WI K (d + 1) mX9_takesE 22 [(2, 108), (0, a1), (0, 0), (9, 0)] [] c19 Q))))))) : WI K (d + 1) mX9_takesE 22 [(2, 108), (0, a1), (0, a2), (9, 0)] [] c Q := by
  refine R_aload_n (pc' := 23) dX9_takesE_22 rfl i108.1 rfl ?_
  refine Q_callVI (vs := []) (st := []) (pc' := 26) dX9_takesE_23 l_RX9_285 i108 (by decide) rfl rfl (Nat.le_of_ble_eq_true rfl) rfl (Nat.zero_le _) (Nat.zero_le _) rfl ?_
  refine CI.mono h (fun c1 r2 h => ?_)
  refine R_istore_n (L' := [_, _, _, _]) (pc' := 27) dX9_takesE_26 (by decide) rfl rfl rfl ?_
  refine R_iload_n (pc' := 28) dX9_takesE_27 rfl rfl ?_
  by_cases hc3 : a2 = 0
  · have h := h.1 hc3
    refine R_eqS_if (tgt := 110) (pc' := 31) dX9_takesE_28 (by decide) hc3 rfl ?_
    refine R_iload_n (pc' := 111) dX9_takesE_110 rfl rfl ?_
    refine R_bipush (pc' := 113) dX9_takesE_111 (by decide) rfl ?_
    by_cases hc4 : r2 = 38
    · have h := h.1 hc4
      refine R_eqS_ic (tgt := 122) (pc' := 116) dX9_takesE_113 (by decide) hc4 rfl ?_
      exact WP_wk (wk_e (wk_e (wk_u (wk_e wk_n)))) h
    · have h := h.2 hc4
      refine R_eqD_ic (tgt := 122) (pc' := 116) dX9_takesE_113 (by decide) hc4 ⟨h.1, ir_l (by decide) (by decide)⟩ rfl ?_
      have h := h.2
      refine R_iload_n (pc' := 117) dX9_takesE_116 rfl rfl ?_
      refine R_bipush (pc' := 119) dX9_takesE_117 (by decide) rfl ?_
      by_cases hc5 : r2 = 124
      · have h := h.1 hc5
        refine R_neS_ic (tgt := 162) (pc' := 122) dX9_takesE_119 (by decide) hc5 rfl ?_
        exact WP_wk (wk_e (wk_e (wk_u (wk_e wk_n)))) h
      · have h := h.2 hc5
        refine R_neD_ic (tgt := 162) (pc' := 122) dX9_takesE_119 (by decide) hc5 ⟨h.1, ir_l (by decide) (by decide)⟩ rfl ?_
        have h := h.2
        refine R_aload_n (pc' := 163) dX9_takesE_162 rfl i108.1 rfl ?_
        refine R_bipush (pc' := 165) dX9_takesE_163 (by decide) rfl ?_
        refine Q_callVV (vs := [(0, 124)]) (st := []) (pc' := 168) dX9_takesE_165 l_RX9_311 i108 (by decide) rfl rfl (Nat.le_of_ble_eq_true rfl) rfl (Nat.zero_le _) (Nat.zero_le _) rfl ?_
        refine CV.mono h (fun c6 h => ?_)
        refine R_aload_n (pc' := 169) dX9_takesE_168 rfl i108.1 rfl ?_
        refine Q_getfr (v := 119) (J := 20) (pc' := 172) rfl dX9_takesE_169 l_RX9_71 i108 fd9_20.1 fd9_20.2.1 fd9_20.2.2.1 fd9_20.2.2.2 f108_20 rfl ?_
        refine R_iload_n (pc' := 173) dX9_takesE_172 rfl rfl ?_
        refine R_aload_n (pc' := 174) dX9_takesE_173 rfl i108.1 rfl ?_
        refine Q_getfi (J := 23) (pc' := 177) rfl dX9_takesE_174 l_RX9_80 i108 fd9_23.1 fd9_23.2.1 fd9_23.2.2.1 rfl ?_
        have hs9 := h.1
        have h := h.2
        refine Q_iastore (N := 60) (pc' := 178) rfl dX9_takesE_177 i119 (by decide) hs9  rfl (fun c8 hc8 => ?_)
        have h := h c8 hc8
        refine R_aload_n (pc' := 179) dX9_takesE_178 rfl i108.1 rfl ?_
        refine Q_getfi (J := 24) (pc' := 182) rfl dX9_takesE_179 l_RX9_83 i108 fd9_24.1 fd9_24.2.1 fd9_24.2.2.1 rfl ?_
        by_cases hc10 : (c8 108 24) = 0
        · have h := h.1 hc10
          refine R_neS_if (tgt := 187) (pc' := 185) dX9_takesE_182 (by decide) hc10 rfl ?_
          refine R_iconst (pc' := 186) dX9_takesE_185 rfl ?_
          exact Q_zret dX9_takesE_186 rfl (Or.inr rfl) h
        · have h := h.2 hc10
          refine R_neD_if (tgt := 187) (pc' := 185) dX9_takesE_182 (by decide) hc10 h.1 rfl ?_
          have h := h.2
          refine R_iload_n (pc' := 188) dX9_takesE_187 rfl rfl ?_
          refine R_bipush (pc' := 190) dX9_takesE_188 (by decide) rfl ?_
          by_cases hc11 : r2 = 41
          · have h := h.1 hc11
            refine R_eqS_ic (tgt := 195) (pc' := 193) dX9_takesE_190 (by decide) hc11 rfl ?_
            refine R_aload_n (pc' := 196) dX9_takesE_195 rfl i108.1 rfl ?_
            refine R_dup (pc' := 197) dX9_takesE_196 (by simp) rfl ?_
            refine Q_getfi (J := 24) (pc' := 200) rfl dX9_takesE_197 l_RX9_83 i108 fd9_24.1 fd9_24.2.1 fd9_24.2.2.1 rfl ?_
            refine R_iconst (pc' := 201) dX9_takesE_200 rfl ?_
            refine R_isub (pc' := 202) dX9_takesE_201 rfl ?_
            refine Q_putfi (J := 24) (pc' := 205) rfl dX9_takesE_202 l_RX9_83 i108 fd9_24.1 fd9_24.2.1 fd9_24.2.2.2.1 fd9_24.2.2.2.2 rfl (fun c12 hc12 => ?_)
            have h := h c12 hc12
            refine R_aload_n (pc' := 206) dX9_takesE_205 rfl i108.1 rfl ?_
            refine R_dup (pc' := 207) dX9_takesE_206 (by simp) rfl ?_
            refine Q_getfi (J := 25) (pc' := 210) rfl dX9_takesE_207 l_RX9_86 i108 fd9_25.1 fd9_25.2.1 fd9_25.2.2.1 rfl ?_
            refine R_iconst (pc' := 211) dX9_takesE_210 rfl ?_
            refine R_isub (pc' := 212) dX9_takesE_211 rfl ?_
            refine Q_putfi (J := 25) (pc' := 215) rfl dX9_takesE_212 l_RX9_86 i108 fd9_25.1 fd9_25.2.1 fd9_25.2.2.2.1 fd9_25.2.2.2.2 rfl (fun c13 hc13 => ?_)
            have h := h c13 hc13
            refine R_aload_n (pc' := 216) dX9_takesE_215 rfl i108.1 rfl ?_
            refine R_dup (pc' := 217) dX9_takesE_216 (by simp) rfl ?_
            refine Q_getfi (J := 13) (pc' := 220) rfl dX9_takesE_217 l_RX9_50 i108 fd9_13.1 fd9_13.2.1 fd9_13.2.2.1 rfl ?_
            refine R_iconst (pc' := 221) dX9_takesE_220 rfl ?_
            refine R_iadd (pc' := 222) dX9_takesE_221 rfl ?_
            refine Q_putfi (J := 13) (pc' := 225) rfl dX9_takesE_222 l_RX9_50 i108 fd9_13.1 fd9_13.2.1 fd9_13.2.2.2.1 fd9_13.2.2.2.2 rfl (fun c14 hc14 => ?_)
            have h := h c14 hc14
            refine R_aload_n (pc' := 226) dX9_takesE_225 rfl i108.1 rfl ?_
            refine Q_callVV (vs := []) (st := []) (pc' := 229) dX9_takesE_226 l_RX9_305 i108 (by decide) rfl rfl (Nat.le_of_ble_eq_true rfl) rfl (Nat.zero_le _) (Nat.zero_le _) rfl ?_
            refine CV.mono h (fun c15 h => ?_)
            refine R_goto (tgt := 22) dX9_takesE_229 (by decide) ?_
            exact WP_wk (wk_e (wk_e (wk_e (wk_u wk_n)))) h
          · have h := h.2 hc11
            refine R_eqD_ic (tgt := 195) (pc' := 193) dX9_takesE_190 (by decide) hc11 ⟨h.1, ir_l (by decide) (by decide)⟩ rfl ?_
            have h := h.2
            refine R_iconst (pc' := 194) dX9_takesE_193 rfl ?_
            exact Q_zret dX9_takesE_194 rfl (Or.inl rfl) h
  · have h := h.2 hc3
    refine R_eqD_if (tgt := 110) (pc' := 31) dX9_takesE_28 (by decide) hc3 h.1 rfl ?_
    have h := h.2
    refine R_iload_n (pc' := 32) dX9_takesE_31 rfl rfl ?_
    refine R_bipush (pc' := 34) dX9_takesE_32 (by decide) rfl ?_
    by_cases hc17 : r2 = 33
    · have h := h.1 hc17
      refine R_eqS_ic (tgt := 43) (pc' := 37) dX9_takesE_34 (by decide) hc17 rfl ?_
      exact WP_wk (wk_e (wk_e (wk_e (wk_e wk_n)))) h
    · have h := h.2 hc17
      refine R_eqD_ic (tgt := 43) (pc' := 37) dX9_takesE_34 (by decide) hc17 ⟨h.1, ir_l (by decide) (by decide)⟩ rfl ?_
      have h := h.2
      refine R_iload_n (pc' := 38) dX9_takesE_37 rfl rfl ?_
      refine R_bipush (pc' := 40) dX9_takesE_38 (by decide) rfl ?_
      by_cases hc18 : r2 = 40
      · have h := h.1 hc18
        refine R_neS_ic (tgt := 96) (pc' := 43) dX9_takesE_40 (by decide) hc18 rfl ?_
        exact WP_wk (wk_e (wk_e (wk_e (wk_e wk_n)))) h
      · have h := h.2 hc18
        refine R_neD_ic (tgt := 96) (pc' := 43) dX9_takesE_40 (by decide) hc18 ⟨h.1, ir_l (by decide) (by decide)⟩ rfl ?_
        have h := h.2
        refine R_aload_n (pc' := 97) dX9_takesE_96 rfl i108.1 rfl ?_
        refine Q_callVI (vs := []) (st := []) (pc' := 100) dX9_takesE_97 l_RX9_308 i108 (by decide) rfl rfl (Nat.le_of_ble_eq_true rfl) rfl (Nat.zero_le _) (Nat.zero_le _) rfl ?_
        refine CI.mono h (fun c19 r20 h => ?_)
        by_cases hc21 : r20 = 0
        · have h := h.1 hc21
          refine R_eqS_if (tgt := 108) (pc' := 103) dX9_takesE_100 (by decide) hc21 rfl ?_
          refine R_iconst (pc' := 109) dX9_takesE_108 rfl ?_
          exact Q_zret dX9_takesE_109 rfl (Or.inl rfl) h
        · have h := h.2 hc21
          refine R_eqD_if (tgt := 108) (pc' := 103) dX9_takesE_100 (by decide) hc21 h.1 rfl ?_
          have h := h.2
          refine R_iconst (pc' := 104) dX9_takesE_103 rfl ?_
          refine R_istore_n (L' := [_, _, _, _]) (pc' := 105) dX9_takesE_104 (by decide) rfl rfl rfl ?_
          refine R_goto (tgt := 22) dX9_takesE_105 (by decide) ?_
          exact WP_wk (wk_e (wk_e (wk_e (wk_u wk_n)))) h
set_option maxRecDepth 100000 in
theorem s_X9_takesE_43 {K : SK} {d : Nat} {c : ct} {Q : ct → Int → Prop} (a1 : Int) (a2 : Int) (a3 : Int) (h : ((c 108 25) = 4 → Q c 0) ∧ (¬ ((c 108 25) = 4) → ir (c 108 25) ∧ ∀ c2 : ct, c2 = up2 c 108 25 ((c 108 25) + 1) → ((0 ≤ (c2 108 24) ∧ (c2 108 24) < 101)) ∧ ∀ c3 : ct, c3 = up2 c2 121 (c2 108 24) a3 → ∀ c5 : ct, c5 = up2 c3 108 24 ((c3 108 24) + 1) → ∀ c6 : ct, c6 = up2 c5 108 13 ((c5 108 13) + 1) → WI K (d + 1) mX9_takesE 22 [(2, 108), (0, a1), (0, a2), (9, 0)] [] c6 Q)) : WI K (d + 1) mX9_takesE 43 [(2, 108), (0, a1), (0, a2), (0, a3)] [] c Q := by
  refine R_aload_n (pc' := 44) dX9_takesE_43 rfl i108.1 rfl ?_
  refine Q_getfi (J := 25) (pc' := 47) rfl dX9_takesE_44 l_RX9_86 i108 fd9_25.1 fd9_25.2.1 fd9_25.2.2.1 rfl ?_
  refine R_iconst (pc' := 48) dX9_takesE_47 rfl ?_
  by_cases hc1 : (c 108 25) = 4
  · have h := h.1 hc1
    refine R_neS_ic (tgt := 53) (pc' := 51) dX9_takesE_48 (by decide) hc1 rfl ?_
    refine R_iconst (pc' := 52) dX9_takesE_51 rfl ?_
    exact Q_zret dX9_takesE_52 rfl (Or.inl rfl) h
  · have h := h.2 hc1
    refine R_neD_ic (tgt := 53) (pc' := 51) dX9_takesE_48 (by decide) hc1 ⟨h.1, ir_l (by decide) (by decide)⟩ rfl ?_
    have h := h.2
    refine R_aload_n (pc' := 54) dX9_takesE_53 rfl i108.1 rfl ?_
    refine R_dup (pc' := 55) dX9_takesE_54 (by simp) rfl ?_
    refine Q_getfi (J := 25) (pc' := 58) rfl dX9_takesE_55 l_RX9_86 i108 fd9_25.1 fd9_25.2.1 fd9_25.2.2.1 rfl ?_
    refine R_iconst (pc' := 59) dX9_takesE_58 rfl ?_
    refine R_iadd (pc' := 60) dX9_takesE_59 rfl ?_
    refine Q_putfi (J := 25) (pc' := 63) rfl dX9_takesE_60 l_RX9_86 i108 fd9_25.1 fd9_25.2.1 fd9_25.2.2.2.1 fd9_25.2.2.2.2 rfl (fun c2 hc2 => ?_)
    have h := h c2 hc2
    refine R_aload_n (pc' := 64) dX9_takesE_63 rfl i108.1 rfl ?_
    refine Q_getfr (v := 121) (J := 22) (pc' := 67) rfl dX9_takesE_64 l_RX9_77 i108 fd9_22.1 fd9_22.2.1 fd9_22.2.2.1 fd9_22.2.2.2 f108_22 rfl ?_
    refine R_aload_n (pc' := 68) dX9_takesE_67 rfl i108.1 rfl ?_
    refine Q_getfi (J := 24) (pc' := 71) rfl dX9_takesE_68 l_RX9_83 i108 fd9_24.1 fd9_24.2.1 fd9_24.2.2.1 rfl ?_
    refine R_iload_n (pc' := 72) dX9_takesE_71 rfl rfl ?_
    have hs4 := h.1
    have h := h.2
    refine Q_iastore (N := 101) (pc' := 73) rfl dX9_takesE_72 i121 (by decide) hs4  rfl (fun c3 hc3 => ?_)
    have h := h c3 hc3
    refine R_aload_n (pc' := 74) dX9_takesE_73 rfl i108.1 rfl ?_
    refine R_dup (pc' := 75) dX9_takesE_74 (by simp) rfl ?_
    refine Q_getfi (J := 24) (pc' := 78) rfl dX9_takesE_75 l_RX9_83 i108 fd9_24.1 fd9_24.2.1 fd9_24.2.2.1 rfl ?_
    refine R_iconst (pc' := 79) dX9_takesE_78 rfl ?_
    refine R_iadd (pc' := 80) dX9_takesE_79 rfl ?_
    refine Q_putfi (J := 24) (pc' := 83) rfl dX9_takesE_80 l_RX9_83 i108 fd9_24.1 fd9_24.2.1 fd9_24.2.2.2.1 fd9_24.2.2.2.2 rfl (fun c5 hc5 => ?_)
    have h := h c5 hc5
    refine R_aload_n (pc' := 84) dX9_takesE_83 rfl i108.1 rfl ?_
    refine R_dup (pc' := 85) dX9_takesE_84 (by simp) rfl ?_
    refine Q_getfi (J := 13) (pc' := 88) rfl dX9_takesE_85 l_RX9_50 i108 fd9_13.1 fd9_13.2.1 fd9_13.2.2.1 rfl ?_
    refine R_iconst (pc' := 89) dX9_takesE_88 rfl ?_
    refine R_iadd (pc' := 90) dX9_takesE_89 rfl ?_
    refine Q_putfi (J := 13) (pc' := 93) rfl dX9_takesE_90 l_RX9_50 i108 fd9_13.1 fd9_13.2.1 fd9_13.2.2.2.1 fd9_13.2.2.2.2 rfl (fun c6 hc6 => ?_)
    have h := h c6 hc6
    refine R_goto (tgt := 22) dX9_takesE_93 (by decide) ?_
    exact WP_wk (wk_e (wk_e (wk_e (wk_u wk_n)))) h
set_option maxRecDepth 100000 in
theorem s_X9_takesE_122 {K : SK} {d : Nat} {c : ct} {Q : ct → Int → Prop} (a1 : Int) (a3 : Int) (h : CV K d mX9_settle [(2, 108), (0, a3)] c (fun c1 => ((0 ≤ (c1 108 24) ∧ (c1 108 24) < 101)) ∧ ∀ c3 : ct, c3 = up2 c1 121 (c1 108 24) a3 → ∀ c5 : ct, c5 = up2 c3 108 24 ((c3 108 24) + 1) → ∀ c6 : ct, c6 = up2 c5 108 13 ((c5 108 13) + 1) → WI K (d + 1) mX9_takesE 22 [(2, 108), (0, a1), (0, 1), (9, 0)] [] c6 Q)) : WI K (d + 1) mX9_takesE 122 [(2, 108), (0, a1), (9, 0), (0, a3)] [] c Q := by
  refine R_aload_n (pc' := 123) dX9_takesE_122 rfl i108.1 rfl ?_
  refine R_iload_n (pc' := 124) dX9_takesE_123 rfl rfl ?_
  refine Q_callVV (vs := [(0, a3)]) (st := []) (pc' := 127) dX9_takesE_124 l_RX9_311 i108 (by decide) rfl rfl (Nat.le_of_ble_eq_true rfl) rfl (Nat.zero_le _) (Nat.zero_le _) rfl ?_
  refine CV.mono h (fun c1 h => ?_)
  refine R_aload_n (pc' := 128) dX9_takesE_127 rfl i108.1 rfl ?_
  refine Q_getfr (v := 121) (J := 22) (pc' := 131) rfl dX9_takesE_128 l_RX9_77 i108 fd9_22.1 fd9_22.2.1 fd9_22.2.2.1 fd9_22.2.2.2 f108_22 rfl ?_
  refine R_aload_n (pc' := 132) dX9_takesE_131 rfl i108.1 rfl ?_
  refine Q_getfi (J := 24) (pc' := 135) rfl dX9_takesE_132 l_RX9_83 i108 fd9_24.1 fd9_24.2.1 fd9_24.2.2.1 rfl ?_
  refine R_iload_n (pc' := 136) dX9_takesE_135 rfl rfl ?_
  have hs4 := h.1
  have h := h.2
  refine Q_iastore (N := 101) (pc' := 137) rfl dX9_takesE_136 i121 (by decide) hs4  rfl (fun c3 hc3 => ?_)
  have h := h c3 hc3
  refine R_aload_n (pc' := 138) dX9_takesE_137 rfl i108.1 rfl ?_
  refine R_dup (pc' := 139) dX9_takesE_138 (by simp) rfl ?_
  refine Q_getfi (J := 24) (pc' := 142) rfl dX9_takesE_139 l_RX9_83 i108 fd9_24.1 fd9_24.2.1 fd9_24.2.2.1 rfl ?_
  refine R_iconst (pc' := 143) dX9_takesE_142 rfl ?_
  refine R_iadd (pc' := 144) dX9_takesE_143 rfl ?_
  refine Q_putfi (J := 24) (pc' := 147) rfl dX9_takesE_144 l_RX9_83 i108 fd9_24.1 fd9_24.2.1 fd9_24.2.2.2.1 fd9_24.2.2.2.2 rfl (fun c5 hc5 => ?_)
  have h := h c5 hc5
  refine R_iconst (pc' := 148) dX9_takesE_147 rfl ?_
  refine R_istore_n (L' := [_, _, _, _]) (pc' := 149) dX9_takesE_148 (by decide) rfl rfl rfl ?_
  refine R_aload_n (pc' := 150) dX9_takesE_149 rfl i108.1 rfl ?_
  refine R_dup (pc' := 151) dX9_takesE_150 (by simp) rfl ?_
  refine Q_getfi (J := 13) (pc' := 154) rfl dX9_takesE_151 l_RX9_50 i108 fd9_13.1 fd9_13.2.1 fd9_13.2.2.1 rfl ?_
  refine R_iconst (pc' := 155) dX9_takesE_154 rfl ?_
  refine R_iadd (pc' := 156) dX9_takesE_155 rfl ?_
  refine Q_putfi (J := 13) (pc' := 159) rfl dX9_takesE_156 l_RX9_50 i108 fd9_13.1 fd9_13.2.1 fd9_13.2.2.2.1 fd9_13.2.2.2.2 rfl (fun c6 hc6 => ?_)
  have h := h c6 hc6
  refine R_goto (tgt := 22) dX9_takesE_159 (by decide) ?_
  exact WP_wk (wk_e (wk_e (wk_e (wk_u wk_n)))) h
theorem e_X9_takesE {K : SK} {d : Nat} {c : ct} {Q : ct → Int → Prop} (a1 : Int) (h : WI K (d + 1) mX9_takesE 0 [(2, 108), (0, a1), (9, 0), (9, 0)] [] c Q) : CI K (d + 1) mX9_takesE [(2, 108), (0, a1)] c Q := CM_ofS (by decide) (Nat.le_of_ble_eq_true rfl) _ rfl h
set_option maxRecDepth 100000 in
theorem s_X9_takesHead_0 {K : SK} {d : Nat} {c : ct} {Q : ct → Int → Prop} (a1 : Int) (h : CI K d mX9_next [(2, 108)] c (fun c1 r2 => ir r2 ∧ (r2 = 98 → ((0 ≤ a1 ∧ a1 < 60)) ∧ ∀ c4 : ct, c4 = up2 c1 116 a1 0 → CI K d mX9_takesWord [(2, 108), (0, 0), (0, 4)] c4 (fun c6 r7 => (r7 = 0 ∨ r7 = 1) ∧ Q c6 r7)) ∧ (r2 = 115 → ((0 ≤ a1 ∧ a1 < 60)) ∧ ∀ c9 : ct, c9 = up2 c1 116 a1 1 → CI K d mX9_takesWord [(2, 108), (0, 4), (0, 4)] c9 (fun c11 r12 => (r12 = 0 ∨ r12 = 1) ∧ Q c11 r12)) ∧ (r2 = 116 → ((0 ≤ a1 ∧ a1 < 60)) ∧ ∀ c14 : ct, c14 = up2 c1 116 a1 2 → CI K d mX9_takesWord [(2, 108), (0, 8), (0, 6)] c14 (fun c16 r17 => (r17 = 0 ∨ r17 = 1) ∧ Q c16 r17)) ∧ ((¬ r2 = 98 ∧ ¬ r2 = 115 ∧ ¬ r2 = 116) → ((0 ≤ a1 ∧ a1 < 60)) ∧ ∀ c18 : ct, c18 = up2 c1 116 a1 3 → CI K d mX9_takesWord [(2, 108), (0, 14), (0, 6)] c18 (fun c20 r21 => (r21 = 0 ∨ r21 = 1) ∧ Q c20 r21)))) : WI K (d + 1) mX9_takesHead 0 [(2, 108), (0, a1)] [] c Q := by
  refine R_aload_n (pc' := 1) dX9_takesHead_0 rfl i108.1 rfl ?_
  refine Q_callVI (vs := []) (st := []) (pc' := 4) dX9_takesHead_1 l_RX9_285 i108 (by decide) rfl rfl (Nat.le_of_ble_eq_true rfl) rfl (Nat.zero_le _) (Nat.zero_le _) rfl ?_
  refine CI.mono h (fun c1 r2 h => ?_)
  have hs0 := h.1
  have h := h.2
  rcases (show r2 = 98 ∨ r2 = 115 ∨ r2 = 116 ∨ (¬ r2 = 98 ∧ ¬ r2 = 115 ∧ ¬ r2 = 116) by omega) with hk | hk | hk | hk
  · have h := h.1 hk
    refine R_look (tgt := 40) (off := 36) dX9_takesHead_4 (by decide) (by rw [hk]; exact ir_l (by decide) (by decide)) (by rw [hk]; first | done | decide) (by decide) ?_
    refine R_aload_n (pc' := 41) dX9_takesHead_40 rfl i108.1 rfl ?_
    refine Q_getfr (v := 116) (J := 17) (pc' := 44) rfl dX9_takesHead_41 l_RX9_62 i108 fd9_17.1 fd9_17.2.1 fd9_17.2.2.1 fd9_17.2.2.2 f108_17 rfl ?_
    refine R_iload_n (pc' := 45) dX9_takesHead_44 rfl rfl ?_
    refine R_iconst (pc' := 46) dX9_takesHead_45 rfl ?_
    have hs5 := h.1
    have h := h.2
    refine Q_iastore (N := 60) (pc' := 47) rfl dX9_takesHead_46 i116 (by decide) hs5  rfl (fun c4 hc4 => ?_)
    have h := h c4 hc4
    refine R_aload_n (pc' := 48) dX9_takesHead_47 rfl i108.1 rfl ?_
    refine R_iconst (pc' := 49) dX9_takesHead_48 rfl ?_
    refine R_iconst (pc' := 50) dX9_takesHead_49 rfl ?_
    refine Q_callVI (vs := [(0, 0), (0, 4)]) (st := []) (pc' := 53) dX9_takesHead_50 l_RX9_314 i108 (by decide) rfl rfl (Nat.le_of_ble_eq_true rfl) rfl (Nat.zero_le _) (Nat.zero_le _) rfl ?_
    refine CI.mono h (fun c6 r7 h => ?_)
    exact Q_zret dX9_takesHead_53 rfl h.1 h.2
  · have h := h.2.1 hk
    refine R_look (tgt := 54) (off := 50) dX9_takesHead_4 (by decide) (by rw [hk]; exact ir_l (by decide) (by decide)) (by rw [hk]; first | done | decide) (by decide) ?_
    refine R_aload_n (pc' := 55) dX9_takesHead_54 rfl i108.1 rfl ?_
    refine Q_getfr (v := 116) (J := 17) (pc' := 58) rfl dX9_takesHead_55 l_RX9_62 i108 fd9_17.1 fd9_17.2.1 fd9_17.2.2.1 fd9_17.2.2.2 f108_17 rfl ?_
    refine R_iload_n (pc' := 59) dX9_takesHead_58 rfl rfl ?_
    refine R_iconst (pc' := 60) dX9_takesHead_59 rfl ?_
    have hs10 := h.1
    have h := h.2
    refine Q_iastore (N := 60) (pc' := 61) rfl dX9_takesHead_60 i116 (by decide) hs10  rfl (fun c9 hc9 => ?_)
    have h := h c9 hc9
    refine R_aload_n (pc' := 62) dX9_takesHead_61 rfl i108.1 rfl ?_
    refine R_iconst (pc' := 63) dX9_takesHead_62 rfl ?_
    refine R_iconst (pc' := 64) dX9_takesHead_63 rfl ?_
    refine Q_callVI (vs := [(0, 4), (0, 4)]) (st := []) (pc' := 67) dX9_takesHead_64 l_RX9_314 i108 (by decide) rfl rfl (Nat.le_of_ble_eq_true rfl) rfl (Nat.zero_le _) (Nat.zero_le _) rfl ?_
    refine CI.mono h (fun c11 r12 h => ?_)
    exact Q_zret dX9_takesHead_67 rfl h.1 h.2
  · have h := h.2.2.1 hk
    refine R_look (tgt := 68) (off := 64) dX9_takesHead_4 (by decide) (by rw [hk]; exact ir_l (by decide) (by decide)) (by rw [hk]; first | done | decide) (by decide) ?_
    refine R_aload_n (pc' := 69) dX9_takesHead_68 rfl i108.1 rfl ?_
    refine Q_getfr (v := 116) (J := 17) (pc' := 72) rfl dX9_takesHead_69 l_RX9_62 i108 fd9_17.1 fd9_17.2.1 fd9_17.2.2.1 fd9_17.2.2.2 f108_17 rfl ?_
    refine R_iload_n (pc' := 73) dX9_takesHead_72 rfl rfl ?_
    refine R_iconst (pc' := 74) dX9_takesHead_73 rfl ?_
    have hs15 := h.1
    have h := h.2
    refine Q_iastore (N := 60) (pc' := 75) rfl dX9_takesHead_74 i116 (by decide) hs15  rfl (fun c14 hc14 => ?_)
    have h := h c14 hc14
    refine R_aload_n (pc' := 76) dX9_takesHead_75 rfl i108.1 rfl ?_
    refine R_bipush (pc' := 78) dX9_takesHead_76 (by decide) rfl ?_
    refine R_bipush (pc' := 80) dX9_takesHead_78 (by decide) rfl ?_
    refine Q_callVI (vs := [(0, 8), (0, 6)]) (st := []) (pc' := 83) dX9_takesHead_80 l_RX9_314 i108 (by decide) rfl rfl (Nat.le_of_ble_eq_true rfl) rfl (Nat.zero_le _) (Nat.zero_le _) rfl ?_
    refine CI.mono h (fun c16 r17 h => ?_)
    exact Q_zret dX9_takesHead_83 rfl h.1 h.2
  · have h := h.2.2.2 hk
    refine R_look (tgt := 84) (off := 80) dX9_takesHead_4 (by decide) hs0 (by rw [Op.lookupswitch.offset_cons, if_neg (fun q => hk.1 q.symm), Op.lookupswitch.offset_cons, if_neg (fun q => hk.2.1 q.symm), Op.lookupswitch.offset_cons, if_neg (fun q => hk.2.2 q.symm)]; first | done | rfl) (by decide) ?_
    refine R_aload_n (pc' := 85) dX9_takesHead_84 rfl i108.1 rfl ?_
    refine Q_getfr (v := 116) (J := 17) (pc' := 88) rfl dX9_takesHead_85 l_RX9_62 i108 fd9_17.1 fd9_17.2.1 fd9_17.2.2.1 fd9_17.2.2.2 f108_17 rfl ?_
    refine R_iload_n (pc' := 89) dX9_takesHead_88 rfl rfl ?_
    refine R_iconst (pc' := 90) dX9_takesHead_89 rfl ?_
    have hs19 := h.1
    have h := h.2
    refine Q_iastore (N := 60) (pc' := 91) rfl dX9_takesHead_90 i116 (by decide) hs19  rfl (fun c18 hc18 => ?_)
    have h := h c18 hc18
    refine R_aload_n (pc' := 92) dX9_takesHead_91 rfl i108.1 rfl ?_
    refine R_bipush (pc' := 94) dX9_takesHead_92 (by decide) rfl ?_
    refine R_bipush (pc' := 96) dX9_takesHead_94 (by decide) rfl ?_
    refine Q_callVI (vs := [(0, 14), (0, 6)]) (st := []) (pc' := 99) dX9_takesHead_96 l_RX9_314 i108 (by decide) rfl rfl (Nat.le_of_ble_eq_true rfl) rfl (Nat.zero_le _) (Nat.zero_le _) rfl ?_
    refine CI.mono h (fun c20 r21 h => ?_)
    exact Q_zret dX9_takesHead_99 rfl h.1 h.2
theorem e_X9_takesHead {K : SK} {d : Nat} {c : ct} {Q : ct → Int → Prop} (a1 : Int) (h : WI K (d + 1) mX9_takesHead 0 [(2, 108), (0, a1)] [] c Q) : CI K (d + 1) mX9_takesHead [(2, 108), (0, a1)] c Q := CM_ofS (by decide) (Nat.le_of_ble_eq_true rfl) _ rfl h
set_option maxRecDepth 100000 in
theorem s_X9_takesClause_0 {K : SK} {d : Nat} {c : ct} {Q : ct → Int → Prop} (a1 : Int) (h : CI K d mX9_takesHead [(2, 108), (0, a1)] c (fun c1 r2 => (r2 = 0 → Q c1 0) ∧ (¬ (r2 = 0) → ir r2 ∧ CI K d mX9_takesNumber [(2, 108)] c1 (fun c4 r5 => (r5 = 0 → Q c4 0) ∧ (¬ (r5 = 0) → ir r5 ∧ ((0 ≤ a1 ∧ a1 < 60)) ∧ ∀ c7 : ct, c7 = up2 c4 117 a1 (c4 108 14) → ((0 ≤ a1 ∧ a1 < 60)) ∧ (ir (c7 116 a1)) ∧ (2 ≤ (c7 116 a1) → Q c7 1) ∧ (¬ (2 ≤ (c7 116 a1)) → CI K d mX9_takes [(2, 108), (0, 32)] c7 (fun c12 r13 => (r13 = 0 → Q c12 0) ∧ (¬ (r13 = 0) → ir r13 ∧ CI K d mX9_takesE [(2, 108), (0, a1)] c12 (fun c15 r16 => (r16 = 0 → Q c15 0) ∧ (¬ (r16 = 0) → ir r16 ∧ Q c15 1)))))))))) : WI K (d + 1) mX9_takesClause 0 [(2, 108), (0, a1)] [] c Q := by
  refine R_aload_n (pc' := 1) dX9_takesClause_0 rfl i108.1 rfl ?_
  refine R_iload_n (pc' := 2) dX9_takesClause_1 rfl rfl ?_
  refine Q_callVI (vs := [(0, a1)]) (st := []) (pc' := 5) dX9_takesClause_2 l_RX9_317 i108 (by decide) rfl rfl (Nat.le_of_ble_eq_true rfl) rfl (Nat.zero_le _) (Nat.zero_le _) rfl ?_
  refine CI.mono h (fun c1 r2 h => ?_)
  by_cases hc3 : r2 = 0
  · have h := h.1 hc3
    refine R_eqS_if (tgt := 15) (pc' := 8) dX9_takesClause_5 (by decide) hc3 rfl ?_
    refine R_iconst (pc' := 16) dX9_takesClause_15 rfl ?_
    exact Q_zret dX9_takesClause_16 rfl (Or.inl rfl) h
  · have h := h.2 hc3
    refine R_eqD_if (tgt := 15) (pc' := 8) dX9_takesClause_5 (by decide) hc3 h.1 rfl ?_
    have h := h.2
    refine R_aload_n (pc' := 9) dX9_takesClause_8 rfl i108.1 rfl ?_
    refine Q_callVI (vs := []) (st := []) (pc' := 12) dX9_takesClause_9 l_RX9_302 i108 (by decide) rfl rfl (Nat.le_of_ble_eq_true rfl) rfl (Nat.zero_le _) (Nat.zero_le _) rfl ?_
    refine CI.mono h (fun c4 r5 h => ?_)
    by_cases hc6 : r5 = 0
    · have h := h.1 hc6
      refine R_neS_if (tgt := 17) (pc' := 15) dX9_takesClause_12 (by decide) hc6 rfl ?_
      refine R_iconst (pc' := 16) dX9_takesClause_15 rfl ?_
      exact Q_zret dX9_takesClause_16 rfl (Or.inl rfl) h
    · have h := h.2 hc6
      refine R_neD_if (tgt := 17) (pc' := 15) dX9_takesClause_12 (by decide) hc6 h.1 rfl ?_
      have h := h.2
      refine R_aload_n (pc' := 18) dX9_takesClause_17 rfl i108.1 rfl ?_
      refine Q_getfr (v := 117) (J := 18) (pc' := 21) rfl dX9_takesClause_18 l_RX9_65 i108 fd9_18.1 fd9_18.2.1 fd9_18.2.2.1 fd9_18.2.2.2 f108_18 rfl ?_
      refine R_iload_n (pc' := 22) dX9_takesClause_21 rfl rfl ?_
      refine R_aload_n (pc' := 23) dX9_takesClause_22 rfl i108.1 rfl ?_
      refine Q_getfi (J := 14) (pc' := 26) rfl dX9_takesClause_23 l_RX9_53 i108 fd9_14.1 fd9_14.2.1 fd9_14.2.2.1 rfl ?_
      have hs8 := h.1
      have h := h.2
      refine Q_iastore (N := 60) (pc' := 27) rfl dX9_takesClause_26 i117 (by decide) hs8  rfl (fun c7 hc7 => ?_)
      have h := h c7 hc7
      refine R_aload_n (pc' := 28) dX9_takesClause_27 rfl i108.1 rfl ?_
      refine Q_getfr (v := 116) (J := 17) (pc' := 31) rfl dX9_takesClause_28 l_RX9_62 i108 fd9_17.1 fd9_17.2.1 fd9_17.2.2.1 fd9_17.2.2.2 f108_17 rfl ?_
      refine R_iload_n (pc' := 32) dX9_takesClause_31 rfl rfl ?_
      have hs9 := h.1
      have h := h.2
      refine Q_iaload (N := 60) (pc' := 33) rfl dX9_takesClause_32 i116 (by decide) hs9 rfl ?_
      refine R_iconst (pc' := 34) dX9_takesClause_33 rfl ?_
      have hs11 := h.1
      have h := h.2
      refine R_icmp_ge (tgt := 54) (pc' := 37) dX9_takesClause_34 (by decide) hs11 (ir_l (by decide) (by decide)) rfl (fun hc10 => ?_) (fun hc10 => ?_)
      · have h := h.1 hc10
        refine R_iconst (pc' := 55) dX9_takesClause_54 rfl ?_
        refine R_goto (tgt := 59) dX9_takesClause_55 (by decide) ?_
        exact Q_zret dX9_takesClause_59 rfl (Or.inr rfl) h
      · have h := h.2 hc10
        refine R_aload_n (pc' := 38) dX9_takesClause_37 rfl i108.1 rfl ?_
        refine R_bipush (pc' := 40) dX9_takesClause_38 (by decide) rfl ?_
        refine Q_callVI (vs := [(0, 32)]) (st := []) (pc' := 43) dX9_takesClause_40 l_RX9_289 i108 (by decide) rfl rfl (Nat.le_of_ble_eq_true rfl) rfl (Nat.zero_le _) (Nat.zero_le _) rfl ?_
        refine CI.mono h (fun c12 r13 h => ?_)
        by_cases hc14 : r13 = 0
        · have h := h.1 hc14
          refine R_eqS_if (tgt := 58) (pc' := 46) dX9_takesClause_43 (by decide) hc14 rfl ?_
          refine R_iconst (pc' := 59) dX9_takesClause_58 rfl ?_
          exact Q_zret dX9_takesClause_59 rfl (Or.inl rfl) h
        · have h := h.2 hc14
          refine R_eqD_if (tgt := 58) (pc' := 46) dX9_takesClause_43 (by decide) hc14 h.1 rfl ?_
          have h := h.2
          refine R_aload_n (pc' := 47) dX9_takesClause_46 rfl i108.1 rfl ?_
          refine R_iload_n (pc' := 48) dX9_takesClause_47 rfl rfl ?_
          refine Q_callVI (vs := [(0, a1)]) (st := []) (pc' := 51) dX9_takesClause_48 l_RX9_320 i108 (by decide) rfl rfl (Nat.le_of_ble_eq_true rfl) rfl (Nat.zero_le _) (Nat.zero_le _) rfl ?_
          refine CI.mono h (fun c15 r16 h => ?_)
          by_cases hc17 : r16 = 0
          · have h := h.1 hc17
            refine R_eqS_if (tgt := 58) (pc' := 54) dX9_takesClause_51 (by decide) hc17 rfl ?_
            refine R_iconst (pc' := 59) dX9_takesClause_58 rfl ?_
            exact Q_zret dX9_takesClause_59 rfl (Or.inl rfl) h
          · have h := h.2 hc17
            refine R_eqD_if (tgt := 58) (pc' := 54) dX9_takesClause_51 (by decide) hc17 h.1 rfl ?_
            have h := h.2
            refine R_iconst (pc' := 55) dX9_takesClause_54 rfl ?_
            refine R_goto (tgt := 59) dX9_takesClause_55 (by decide) ?_
            exact Q_zret dX9_takesClause_59 rfl (Or.inr rfl) h
theorem e_X9_takesClause {K : SK} {d : Nat} {c : ct} {Q : ct → Int → Prop} (a1 : Int) (h : WI K (d + 1) mX9_takesClause 0 [(2, 108), (0, a1)] [] c Q) : CI K (d + 1) mX9_takesClause [(2, 108), (0, a1)] c Q := CM_ofS (by decide) (Nat.le_of_ble_eq_true rfl) _ rfl h
set_option maxRecDepth 100000 in
theorem s_X9_goesText_0 {K : SK} {d : Nat} {c : ct} {Q : ct → Int → Prop} (a1 : Int) (h : ∀ c1 : ct, c1 = up2 c 108 13 0 → ∀ c2 : ct, c2 = up2 c1 108 23 (100 * a1) → WI K (d + 1) mX9_goesText 15 [(2, 108), (0, a1), (0, 0)] [] c2 Q) : WI K (d + 1) mX9_goesText 0 [(2, 108), (0, a1), (9, 0)] [] c Q := by
  refine R_aload_n (pc' := 1) dX9_goesText_0 rfl i108.1 rfl ?_
  refine R_iconst (pc' := 2) dX9_goesText_1 rfl ?_
  refine Q_putfi (J := 13) (pc' := 5) rfl dX9_goesText_2 l_RX9_50 i108 fd9_13.1 fd9_13.2.1 fd9_13.2.2.2.1 fd9_13.2.2.2.2 rfl (fun c1 hc1 => ?_)
  have h := h c1 hc1
  refine R_aload_n (pc' := 6) dX9_goesText_5 rfl i108.1 rfl ?_
  refine R_bipush (pc' := 8) dX9_goesText_6 (by decide) rfl ?_
  refine R_iload_n (pc' := 9) dX9_goesText_8 rfl rfl ?_
  refine R_imul (pc' := 10) dX9_goesText_9 rfl ?_
  refine Q_putfi (J := 23) (pc' := 13) rfl dX9_goesText_10 l_RX9_80 i108 fd9_23.1 fd9_23.2.1 fd9_23.2.2.2.1 fd9_23.2.2.2.2 rfl (fun c2 hc2 => ?_)
  have h := h c2 hc2
  refine R_iconst (pc' := 14) dX9_goesText_13 rfl ?_
  refine R_istore_n (L' := [_, _, _]) (pc' := 15) dX9_goesText_14 (by decide) rfl rfl rfl ?_
  exact WP_wk (wk_e (wk_e (wk_e wk_n))) h
set_option maxRecDepth 100000 in
theorem s_X9_goesText_15 {K : SK} {d : Nat} {c : ct} {Q : ct → Int → Prop} (a1 : Int) (a2 : Int) (h : CI K d mX9_takesClause [(2, 108), (0, ((10 * a1) + a2))] c (fun c1 r2 => (r2 = 0 → Q c1 0) ∧ (¬ (r2 = 0) → ir r2 ∧ ((0 ≤ a1 ∧ a1 < 6)) ∧ ∀ c4 : ct, c4 = up2 c1 115 a1 (a2 + 1) → ((c4 108 13) = (c4 108 12) → Q c4 1) ∧ (¬ ((c4 108 13) = (c4 108 12)) → (ir (c4 108 13) ∧ ir (c4 108 12)) ∧ ((a2 + 1) = 10 → Q c4 0) ∧ (¬ ((a2 + 1) = 10) → ir (a2 + 1) ∧ CI K d mX9_takes [(2, 108), (0, 59)] c4 (fun c8 r9 => (r9 = 0 → Q c8 0) ∧ (¬ (r9 = 0) → ir r9 ∧ WI K (d + 1) mX9_goesText 15 [(2, 108), (0, a1), (0, (a2 + 1))] [] c8 Q))))))) : WI K (d + 1) mX9_goesText 15 [(2, 108), (0, a1), (0, a2)] [] c Q := by
  refine R_aload_n (pc' := 16) dX9_goesText_15 rfl i108.1 rfl ?_
  refine R_bipush (pc' := 18) dX9_goesText_16 (by decide) rfl ?_
  refine R_iload_n (pc' := 19) dX9_goesText_18 rfl rfl ?_
  refine R_imul (pc' := 20) dX9_goesText_19 rfl ?_
  refine R_iload_n (pc' := 21) dX9_goesText_20 rfl rfl ?_
  refine R_iadd (pc' := 22) dX9_goesText_21 rfl ?_
  refine Q_callVI (vs := [(0, ((10 * a1) + a2))]) (st := []) (pc' := 25) dX9_goesText_22 l_RX9_323 i108 (by decide) rfl rfl (Nat.le_of_ble_eq_true rfl) rfl (Nat.zero_le _) (Nat.zero_le _) rfl ?_
  refine CI.mono h (fun c1 r2 h => ?_)
  by_cases hc3 : r2 = 0
  · have h := h.1 hc3
    refine R_neS_if (tgt := 30) (pc' := 28) dX9_goesText_25 (by decide) hc3 rfl ?_
    refine R_iconst (pc' := 29) dX9_goesText_28 rfl ?_
    exact Q_zret dX9_goesText_29 rfl (Or.inl rfl) h
  · have h := h.2 hc3
    refine R_neD_if (tgt := 30) (pc' := 28) dX9_goesText_25 (by decide) hc3 h.1 rfl ?_
    have h := h.2
    refine R_iinc (L' := [_, _, _]) (pc' := 33) dX9_goesText_30 rfl (by decide) rfl rfl rfl ?_
    refine R_aload_n (pc' := 34) dX9_goesText_33 rfl i108.1 rfl ?_
    refine Q_getfr (v := 115) (J := 16) (pc' := 37) rfl dX9_goesText_34 l_RX9_59 i108 fd9_16.1 fd9_16.2.1 fd9_16.2.2.1 fd9_16.2.2.2 f108_16 rfl ?_
    refine R_iload_n (pc' := 38) dX9_goesText_37 rfl rfl ?_
    refine R_iload_n (pc' := 39) dX9_goesText_38 rfl rfl ?_
    have hs5 := h.1
    have h := h.2
    refine Q_iastore (N := 6) (pc' := 40) rfl dX9_goesText_39 i115 (by decide) hs5  rfl (fun c4 hc4 => ?_)
    have h := h c4 hc4
    refine R_aload_n (pc' := 41) dX9_goesText_40 rfl i108.1 rfl ?_
    refine Q_getfi (J := 13) (pc' := 44) rfl dX9_goesText_41 l_RX9_50 i108 fd9_13.1 fd9_13.2.1 fd9_13.2.2.1 rfl ?_
    refine R_aload_n (pc' := 45) dX9_goesText_44 rfl i108.1 rfl ?_
    refine Q_getfi (J := 12) (pc' := 48) rfl dX9_goesText_45 l_RX9_47 i108 fd9_12.1 fd9_12.2.1 fd9_12.2.2.1 rfl ?_
    by_cases hc6 : (c4 108 13) = (c4 108 12)
    · have h := h.1 hc6
      refine R_neS_ic (tgt := 53) (pc' := 51) dX9_goesText_48 (by decide) hc6 rfl ?_
      refine R_iconst (pc' := 52) dX9_goesText_51 rfl ?_
      exact Q_zret dX9_goesText_52 rfl (Or.inr rfl) h
    · have h := h.2 hc6
      refine R_neD_ic (tgt := 53) (pc' := 51) dX9_goesText_48 (by decide) hc6 h.1 rfl ?_
      have h := h.2
      refine R_iload_n (pc' := 54) dX9_goesText_53 rfl rfl ?_
      refine R_bipush (pc' := 56) dX9_goesText_54 (by decide) rfl ?_
      by_cases hc7 : (a2 + 1) = 10
      · have h := h.1 hc7
        refine R_eqS_ic (tgt := 68) (pc' := 59) dX9_goesText_56 (by decide) hc7 rfl ?_
        refine R_iconst (pc' := 69) dX9_goesText_68 rfl ?_
        exact Q_zret dX9_goesText_69 rfl (Or.inl rfl) h
      · have h := h.2 hc7
        refine R_eqD_ic (tgt := 68) (pc' := 59) dX9_goesText_56 (by decide) hc7 ⟨h.1, ir_l (by decide) (by decide)⟩ rfl ?_
        have h := h.2
        refine R_aload_n (pc' := 60) dX9_goesText_59 rfl i108.1 rfl ?_
        refine R_bipush (pc' := 62) dX9_goesText_60 (by decide) rfl ?_
        refine Q_callVI (vs := [(0, 59)]) (st := []) (pc' := 65) dX9_goesText_62 l_RX9_289 i108 (by decide) rfl rfl (Nat.le_of_ble_eq_true rfl) rfl (Nat.zero_le _) (Nat.zero_le _) rfl ?_
        refine CI.mono h (fun c8 r9 h => ?_)
        by_cases hc10 : r9 = 0
        · have h := h.1 hc10
          refine R_neS_if (tgt := 15) (pc' := 68) dX9_goesText_65 (by decide) hc10 rfl ?_
          refine R_iconst (pc' := 69) dX9_goesText_68 rfl ?_
          exact Q_zret dX9_goesText_69 rfl (Or.inl rfl) h
        · have h := h.2 hc10
          refine R_neD_if (tgt := 15) (pc' := 68) dX9_goesText_65 (by decide) hc10 h.1 rfl ?_
          have h := h.2
          exact WP_wk (wk_e (wk_e (wk_e wk_n))) h
theorem e_X9_goesText {K : SK} {d : Nat} {c : ct} {Q : ct → Int → Prop} (a1 : Int) (h : WI K (d + 1) mX9_goesText 0 [(2, 108), (0, a1), (9, 0)] [] c Q) : CI K (d + 1) mX9_goesText [(2, 108), (0, a1)] c Q := CM_ofS (by decide) (Nat.le_of_ble_eq_true rfl) _ rfl h
set_option maxRecDepth 100000 in
theorem s_X9_house_0 {K : SK} {d : Nat} {c : ct} {Q : ct → Int → Prop}  (h : ((c 108 10) = 6 → Q c (-4)) ∧ (¬ ((c 108 10) = 6) → ir (c 108 10) ∧ CI K d mX9_goesText [(2, 108), (0, (c 108 10))] c (fun c2 r3 => ∀ c4 : ct, c4 = up2 c2 108 12 0 → (r3 = 0 → Q c4 ((-10) - (c4 108 13))) ∧ (¬ (r3 = 0) → ir r3 ∧ ∀ c6 : ct, c6 = up2 c4 108 11 (c4 108 10) → ∀ c7 : ct, c7 = up2 c6 108 10 ((c6 108 10) + 1) → Q c7 (c7 108 11))))) : WI K (d + 1) mX9_house 0 [(2, 108), (9, 0)] [] c Q := by
  refine R_aload_n (pc' := 1) dX9_house_0 rfl i108.1 rfl ?_
  refine Q_getfi (J := 10) (pc' := 4) rfl dX9_house_1 l_RX9_41 i108 fd9_10.1 fd9_10.2.1 fd9_10.2.2.1 rfl ?_
  refine R_bipush (pc' := 6) dX9_house_4 (by decide) rfl ?_
  by_cases hc1 : (c 108 10) = 6
  · have h := h.1 hc1
    refine R_neS_ic (tgt := 12) (pc' := 9) dX9_house_6 (by decide) hc1 rfl ?_
    refine R_bipush (pc' := 11) dX9_house_9 (by decide) rfl ?_
    exact Q_iret dX9_house_11 rfl h
  · have h := h.2 hc1
    refine R_neD_ic (tgt := 12) (pc' := 9) dX9_house_6 (by decide) hc1 ⟨h.1, ir_l (by decide) (by decide)⟩ rfl ?_
    have h := h.2
    refine R_aload_n (pc' := 13) dX9_house_12 rfl i108.1 rfl ?_
    refine R_aload_n (pc' := 14) dX9_house_13 rfl i108.1 rfl ?_
    refine Q_getfi (J := 10) (pc' := 17) rfl dX9_house_14 l_RX9_41 i108 fd9_10.1 fd9_10.2.1 fd9_10.2.2.1 rfl ?_
    refine Q_callVI (vs := [(0, (c 108 10))]) (st := []) (pc' := 20) dX9_house_17 l_RX9_326 i108 (by decide) rfl rfl (Nat.le_of_ble_eq_true rfl) rfl (Nat.zero_le _) (Nat.zero_le _) rfl ?_
    refine CI.mono h (fun c2 r3 h => ?_)
    refine R_istore_n (L' := [_, _]) (pc' := 21) dX9_house_20 (by decide) rfl rfl rfl ?_
    refine R_aload_n (pc' := 22) dX9_house_21 rfl i108.1 rfl ?_
    refine R_iconst (pc' := 23) dX9_house_22 rfl ?_
    refine Q_putfi (J := 12) (pc' := 26) rfl dX9_house_23 l_RX9_47 i108 fd9_12.1 fd9_12.2.1 fd9_12.2.2.2.1 fd9_12.2.2.2.2 rfl (fun c4 hc4 => ?_)
    have h := h c4 hc4
    refine R_iload_n (pc' := 27) dX9_house_26 rfl rfl ?_
    by_cases hc5 : r3 = 0
    · have h := h.1 hc5
      refine R_neS_if (tgt := 38) (pc' := 30) dX9_house_27 (by decide) hc5 rfl ?_
      refine R_bipush (pc' := 32) dX9_house_30 (by decide) rfl ?_
      refine R_aload_n (pc' := 33) dX9_house_32 rfl i108.1 rfl ?_
      refine Q_getfi (J := 13) (pc' := 36) rfl dX9_house_33 l_RX9_50 i108 fd9_13.1 fd9_13.2.1 fd9_13.2.2.1 rfl ?_
      refine R_isub (pc' := 37) dX9_house_36 rfl ?_
      exact Q_iret dX9_house_37 rfl h
    · have h := h.2 hc5
      refine R_neD_if (tgt := 38) (pc' := 30) dX9_house_27 (by decide) hc5 h.1 rfl ?_
      have h := h.2
      refine R_aload_n (pc' := 39) dX9_house_38 rfl i108.1 rfl ?_
      refine R_aload_n (pc' := 40) dX9_house_39 rfl i108.1 rfl ?_
      refine Q_getfi (J := 10) (pc' := 43) rfl dX9_house_40 l_RX9_41 i108 fd9_10.1 fd9_10.2.1 fd9_10.2.2.1 rfl ?_
      refine Q_putfi (J := 11) (pc' := 46) rfl dX9_house_43 l_RX9_44 i108 fd9_11.1 fd9_11.2.1 fd9_11.2.2.2.1 fd9_11.2.2.2.2 rfl (fun c6 hc6 => ?_)
      have h := h c6 hc6
      refine R_aload_n (pc' := 47) dX9_house_46 rfl i108.1 rfl ?_
      refine R_dup (pc' := 48) dX9_house_47 (by simp) rfl ?_
      refine Q_getfi (J := 10) (pc' := 51) rfl dX9_house_48 l_RX9_41 i108 fd9_10.1 fd9_10.2.1 fd9_10.2.2.1 rfl ?_
      refine R_iconst (pc' := 52) dX9_house_51 rfl ?_
      refine R_iadd (pc' := 53) dX9_house_52 rfl ?_
      refine Q_putfi (J := 10) (pc' := 56) rfl dX9_house_53 l_RX9_41 i108 fd9_10.1 fd9_10.2.1 fd9_10.2.2.2.1 fd9_10.2.2.2.2 rfl (fun c7 hc7 => ?_)
      have h := h c7 hc7
      refine R_aload_n (pc' := 57) dX9_house_56 rfl i108.1 rfl ?_
      refine Q_getfi (J := 11) (pc' := 60) rfl dX9_house_57 l_RX9_44 i108 fd9_11.1 fd9_11.2.1 fd9_11.2.2.1 rfl ?_
      exact Q_iret dX9_house_60 rfl h
theorem e_X9_house {K : SK} {d : Nat} {c : ct} {Q : ct → Int → Prop}  (h : WI K (d + 1) mX9_house 0 [(2, 108), (9, 0)] [] c Q) : CI K (d + 1) mX9_house [(2, 108)] c Q := CM_ofS (by decide) (Nat.le_of_ble_eq_true rfl) _ rfl h
set_option maxRecDepth 100000 in
theorem s_X9_begin_0 {K : SK} {d : Nat} {c : ct} {Q : ct → Int → Prop}  (h : (ir (c 108 11)) ∧ (0 ≤ (c 108 11) → Q c (10 * (c 108 11))) ∧ (¬ (0 ≤ (c 108 11)) → Q c 0)) : WI K (d + 1) mX9_begin 0 [(2, 108)] [] c Q := by
  refine R_aload_n (pc' := 1) dX9_begin_0 rfl i108.1 rfl ?_
  refine Q_getfi (J := 11) (pc' := 4) rfl dX9_begin_1 l_RX9_44 i108 fd9_11.1 fd9_11.2.1 fd9_11.2.2.1 rfl ?_
  have hs2 := h.1
  have h := h.2
  refine R_if_ge (tgt := 11) (pc' := 7) dX9_begin_4 (by decide) hs2  rfl (fun hc1 => ?_) (fun hc1 => ?_)
  · have h := h.1 hc1
    refine R_bipush (pc' := 13) dX9_begin_11 (by decide) rfl ?_
    refine R_aload_n (pc' := 14) dX9_begin_13 rfl i108.1 rfl ?_
    refine Q_getfi (J := 11) (pc' := 17) rfl dX9_begin_14 l_RX9_44 i108 fd9_11.1 fd9_11.2.1 fd9_11.2.2.1 rfl ?_
    refine R_imul (pc' := 18) dX9_begin_17 rfl ?_
    exact Q_iret dX9_begin_18 rfl h
  · have h := h.2 hc1
    refine R_iconst (pc' := 8) dX9_begin_7 rfl ?_
    refine R_goto (tgt := 18) dX9_begin_8 (by decide) ?_
    exact Q_iret dX9_begin_18 rfl h
theorem e_X9_begin {K : SK} {d : Nat} {c : ct} {Q : ct → Int → Prop}  (h : WI K (d + 1) mX9_begin 0 [(2, 108)] [] c Q) : CI K (d + 1) mX9_begin [(2, 108)] c Q := CM_ofS (by decide) (Nat.le_of_ble_eq_true rfl) _ rfl h
set_option maxRecDepth 100000 in
theorem s_X9_behind_0 {K : SK} {d : Nat} {c : ct} {Q : ct → Int → Prop}  (h : (ir (c 108 11)) ∧ (0 ≤ (c 108 11) → ((0 ≤ (c 108 11) ∧ (c 108 11) < 6)) ∧ Q c ((10 * (c 108 11)) + (c 115 (c 108 11)))) ∧ (¬ (0 ≤ (c 108 11)) → Q c 0)) : WI K (d + 1) mX9_behind 0 [(2, 108)] [] c Q := by
  refine R_aload_n (pc' := 1) dX9_behind_0 rfl i108.1 rfl ?_
  refine Q_getfi (J := 11) (pc' := 4) rfl dX9_behind_1 l_RX9_44 i108 fd9_11.1 fd9_11.2.1 fd9_11.2.2.1 rfl ?_
  have hs2 := h.1
  have h := h.2
  refine R_if_ge (tgt := 11) (pc' := 7) dX9_behind_4 (by decide) hs2  rfl (fun hc1 => ?_) (fun hc1 => ?_)
  · have h := h.1 hc1
    refine R_bipush (pc' := 13) dX9_behind_11 (by decide) rfl ?_
    refine R_aload_n (pc' := 14) dX9_behind_13 rfl i108.1 rfl ?_
    refine Q_getfi (J := 11) (pc' := 17) rfl dX9_behind_14 l_RX9_44 i108 fd9_11.1 fd9_11.2.1 fd9_11.2.2.1 rfl ?_
    refine R_imul (pc' := 18) dX9_behind_17 rfl ?_
    refine R_aload_n (pc' := 19) dX9_behind_18 rfl i108.1 rfl ?_
    refine Q_getfr (v := 115) (J := 16) (pc' := 22) rfl dX9_behind_19 l_RX9_59 i108 fd9_16.1 fd9_16.2.1 fd9_16.2.2.1 fd9_16.2.2.2 f108_16 rfl ?_
    refine R_aload_n (pc' := 23) dX9_behind_22 rfl i108.1 rfl ?_
    refine Q_getfi (J := 11) (pc' := 26) rfl dX9_behind_23 l_RX9_44 i108 fd9_11.1 fd9_11.2.1 fd9_11.2.2.1 rfl ?_
    have hs3 := h.1
    have h := h.2
    refine Q_iaload (N := 6) (pc' := 27) rfl dX9_behind_26 i115 (by decide) hs3 rfl ?_
    refine R_iadd (pc' := 28) dX9_behind_27 rfl ?_
    exact Q_iret dX9_behind_28 rfl h
  · have h := h.2 hc1
    refine R_iconst (pc' := 8) dX9_behind_7 rfl ?_
    refine R_goto (tgt := 28) dX9_behind_8 (by decide) ?_
    exact Q_iret dX9_behind_28 rfl h
theorem e_X9_behind {K : SK} {d : Nat} {c : ct} {Q : ct → Int → Prop}  (h : WI K (d + 1) mX9_behind 0 [(2, 108)] [] c Q) : CI K (d + 1) mX9_behind [(2, 108)] c Q := CM_ofS (by decide) (Nat.le_of_ble_eq_true rfl) _ rfl h
set_option maxRecDepth 100000 in
theorem s_X9_lastOf_0 {K : SK} {d : Nat} {c : ct} {Q : ct → Int → Prop} (a1 : Int) (a2 : Int) (h : CI K d mX9_begin [(2, 108)] c (fun c1 r2 => WI K (d + 1) mX9_lastOf 8 [(2, 108), (0, a1), (9, 0), (0, a2), (0, r2)] [] c1 Q)) : WI K (d + 1) mX9_lastOf 0 [(2, 108), (0, a1), (0, a2), (9, 0), (9, 0)] [] c Q := by
  refine R_iload_n (pc' := 1) dX9_lastOf_0 rfl rfl ?_
  refine R_istore_n (L' := [_, _, _, _, _]) (pc' := 2) dX9_lastOf_1 (by decide) rfl rfl rfl ?_
  refine R_aload_n (pc' := 3) dX9_lastOf_2 rfl i108.1 rfl ?_
  refine Q_callVI (vs := []) (st := []) (pc' := 6) dX9_lastOf_3 l_RX9_329 i108 (by decide) rfl rfl (Nat.le_of_ble_eq_true rfl) rfl (Nat.zero_le _) (Nat.zero_le _) rfl ?_
  refine CI.mono h (fun c1 r2 h => ?_)
  refine R_istore (L' := [_, _, _, _, _]) (pc' := 8) dX9_lastOf_6 (by decide) rfl rfl rfl ?_
  exact WP_wk (wk_e (wk_e (wk_u (wk_e (wk_e wk_n))))) h
set_option maxRecDepth 100000 in
theorem s_X9_lastOf_8 {K : SK} {d : Nat} {c : ct} {Q : ct → Int → Prop} (a1 : Int) (a3 : Int) (a4 : Int) (h : CI K d mX9_behind [(2, 108)] c (fun c1 r2 => (ir a4 ∧ ir r2) ∧ (r2 ≤ a4 → Q c1 a3) ∧ (¬ (r2 ≤ a4) → ((0 ≤ a4 ∧ a4 < 60)) ∧ ((c1 116 a4) = a1 → ((0 ≤ a4 ∧ a4 < 60)) ∧ WI K (d + 1) mX9_lastOf 8 [(2, 108), (0, a1), (9, 0), (0, (c1 117 a4)), (0, (a4 + 1))] [] c1 Q) ∧ (¬ ((c1 116 a4) = a1) → (ir (c1 116 a4) ∧ ir a1) ∧ WI K (d + 1) mX9_lastOf 8 [(2, 108), (0, a1), (9, 0), (0, a3), (0, (a4 + 1))] [] c1 Q)))) : WI K (d + 1) mX9_lastOf 8 [(2, 108), (0, a1), (9, 0), (0, a3), (0, a4)] [] c Q := by
  refine R_iload (pc' := 10) dX9_lastOf_8 rfl rfl ?_
  refine R_aload_n (pc' := 11) dX9_lastOf_10 rfl i108.1 rfl ?_
  refine Q_callVI (vs := []) (st := [(0, a4)]) (pc' := 14) dX9_lastOf_11 l_RX9_332 i108 (by decide) rfl rfl (Nat.le_of_ble_eq_true rfl) rfl (Nat.zero_le _) (Nat.zero_le _) rfl ?_
  refine CI.mono h (fun c1 r2 h => ?_)
  have hs4 := h.1
  have h := h.2
  refine R_icmp_ge (tgt := 46) (pc' := 17) dX9_lastOf_14 (by decide) hs4.1 hs4.2 rfl (fun hc3 => ?_) (fun hc3 => ?_)
  · have h := h.1 hc3
    refine R_iload_n (pc' := 47) dX9_lastOf_46 rfl rfl ?_
    exact Q_iret dX9_lastOf_47 rfl h
  · have h := h.2 hc3
    refine R_aload_n (pc' := 18) dX9_lastOf_17 rfl i108.1 rfl ?_
    refine Q_getfr (v := 116) (J := 17) (pc' := 21) rfl dX9_lastOf_18 l_RX9_62 i108 fd9_17.1 fd9_17.2.1 fd9_17.2.2.1 fd9_17.2.2.2 f108_17 rfl ?_
    refine R_iload (pc' := 23) dX9_lastOf_21 rfl rfl ?_
    have hs5 := h.1
    have h := h.2
    refine Q_iaload (N := 60) (pc' := 24) rfl dX9_lastOf_23 i116 (by decide) hs5 rfl ?_
    refine R_iload_n (pc' := 25) dX9_lastOf_24 rfl rfl ?_
    by_cases hc6 : (c1 116 a4) = a1
    · have h := h.1 hc6
      refine R_neS_ic (tgt := 38) (pc' := 28) dX9_lastOf_25 (by decide) hc6 rfl ?_
      refine R_aload_n (pc' := 29) dX9_lastOf_28 rfl i108.1 rfl ?_
      refine Q_getfr (v := 117) (J := 18) (pc' := 32) rfl dX9_lastOf_29 l_RX9_65 i108 fd9_18.1 fd9_18.2.1 fd9_18.2.2.1 fd9_18.2.2.2 f108_18 rfl ?_
      refine R_iload (pc' := 34) dX9_lastOf_32 rfl rfl ?_
      have hs7 := h.1
      have h := h.2
      refine Q_iaload (N := 60) (pc' := 35) rfl dX9_lastOf_34 i117 (by decide) hs7 rfl ?_
      refine R_goto (tgt := 39) dX9_lastOf_35 (by decide) ?_
      refine R_istore_n (L' := [_, _, _, _, _]) (pc' := 40) dX9_lastOf_39 (by decide) rfl rfl rfl ?_
      refine R_iinc (L' := [_, _, _, _, _]) (pc' := 43) dX9_lastOf_40 rfl (by decide) rfl rfl rfl ?_
      refine R_goto (tgt := 8) dX9_lastOf_43 (by decide) ?_
      exact WP_wk (wk_e (wk_e (wk_u (wk_e (wk_e wk_n))))) h
    · have h := h.2 hc6
      refine R_neD_ic (tgt := 38) (pc' := 28) dX9_lastOf_25 (by decide) hc6 h.1 rfl ?_
      have h := h.2
      refine R_iload_n (pc' := 39) dX9_lastOf_38 rfl rfl ?_
      refine R_istore_n (L' := [_, _, _, _, _]) (pc' := 40) dX9_lastOf_39 (by decide) rfl rfl rfl ?_
      refine R_iinc (L' := [_, _, _, _, _]) (pc' := 43) dX9_lastOf_40 rfl (by decide) rfl rfl rfl ?_
      refine R_goto (tgt := 8) dX9_lastOf_43 (by decide) ?_
      exact WP_wk (wk_e (wk_e (wk_u (wk_e (wk_e wk_n))))) h
theorem e_X9_lastOf {K : SK} {d : Nat} {c : ct} {Q : ct → Int → Prop} (a1 : Int) (a2 : Int) (h : WI K (d + 1) mX9_lastOf 0 [(2, 108), (0, a1), (0, a2), (9, 0), (9, 0)] [] c Q) : CI K (d + 1) mX9_lastOf [(2, 108), (0, a1), (0, a2)] c Q := CM_ofS (by decide) (Nat.le_of_ble_eq_true rfl) _ rfl h
set_option maxRecDepth 100000 in
theorem s_X9_factOf_0 {K : SK} {d : Nat} {c : ct} {Q : ct → Int → Prop} (a1 : Int) (a2 : Int) (a3 : Int) (h : ir a1 ∧ (a1 = 0 → Q c a2) ∧ (a1 = 1 → Q c a3) ∧ (a1 = 2 → ((0 ≤ a2 ∧ a2 < 6)) ∧ Q c (c 109 a2)) ∧ (a1 = 3 → ((0 ≤ a3 ∧ a3 < 6)) ∧ Q c (c 109 a3)) ∧ (a1 = 4 → ((0 ≤ a2 ∧ a2 < 6)) ∧ Q c (c 110 a2)) ∧ ((a1 < 0 ∨ 4 < a1) → (ir (c 108 4)) ∧ Q c (Int.tmod (c 108 4) 10))) : WI K (d + 1) mX9_factOf 0 [(2, 108), (0, a1), (0, a2), (0, a3)] [] c Q := by
  refine R_iload_n (pc' := 1) dX9_factOf_0 rfl rfl ?_
  have hs0 := h.1
  have h := h.2
  rcases (show a1 = 0 ∨ a1 = 1 ∨ a1 = 2 ∨ a1 = 3 ∨ a1 = 4 ∨ (a1 < 0 ∨ 4 < a1) by omega) with hk | hk | hk | hk | hk | hk
  · have h := h.1 hk
    refine R_tableAt (tgt := 36) 0 hk dX9_factOf_1 (ir_l (by decide) (by decide)) (by decide) rfl (by decide) ?_
    refine R_iload_n (pc' := 37) dX9_factOf_36 rfl rfl ?_
    exact Q_iret dX9_factOf_37 rfl h
  · have h := h.2.1 hk
    refine R_tableAt (tgt := 38) 1 hk dX9_factOf_1 (ir_l (by decide) (by decide)) (by decide) rfl (by decide) ?_
    refine R_iload_n (pc' := 39) dX9_factOf_38 rfl rfl ?_
    exact Q_iret dX9_factOf_39 rfl h
  · have h := h.2.2.1 hk
    refine R_tableAt (tgt := 40) 2 hk dX9_factOf_1 (ir_l (by decide) (by decide)) (by decide) rfl (by decide) ?_
    refine R_aload_n (pc' := 41) dX9_factOf_40 rfl i108.1 rfl ?_
    refine Q_getfr (v := 109) (J := 5) (pc' := 44) rfl dX9_factOf_41 l_RX9_25 i108 fd9_5.1 fd9_5.2.1 fd9_5.2.2.1 fd9_5.2.2.2 f108_5 rfl ?_
    refine R_iload_n (pc' := 45) dX9_factOf_44 rfl rfl ?_
    have hs4 := h.1
    have h := h.2
    refine Q_iaload (N := 6) (pc' := 46) rfl dX9_factOf_45 i109 (by decide) hs4 rfl ?_
    exact Q_iret dX9_factOf_46 rfl h
  · have h := h.2.2.2.1 hk
    refine R_tableAt (tgt := 47) 3 hk dX9_factOf_1 (ir_l (by decide) (by decide)) (by decide) rfl (by decide) ?_
    refine R_aload_n (pc' := 48) dX9_factOf_47 rfl i108.1 rfl ?_
    refine Q_getfr (v := 109) (J := 5) (pc' := 51) rfl dX9_factOf_48 l_RX9_25 i108 fd9_5.1 fd9_5.2.1 fd9_5.2.2.1 fd9_5.2.2.2 f108_5 rfl ?_
    refine R_iload_n (pc' := 52) dX9_factOf_51 rfl rfl ?_
    have hs6 := h.1
    have h := h.2
    refine Q_iaload (N := 6) (pc' := 53) rfl dX9_factOf_52 i109 (by decide) hs6 rfl ?_
    exact Q_iret dX9_factOf_53 rfl h
  · have h := h.2.2.2.2.1 hk
    refine R_tableAt (tgt := 54) 4 hk dX9_factOf_1 (ir_l (by decide) (by decide)) (by decide) rfl (by decide) ?_
    refine R_aload_n (pc' := 55) dX9_factOf_54 rfl i108.1 rfl ?_
    refine Q_getfr (v := 110) (J := 6) (pc' := 58) rfl dX9_factOf_55 l_RX9_29 i108 fd9_6.1 fd9_6.2.1 fd9_6.2.2.1 fd9_6.2.2.2 f108_6 rfl ?_
    refine R_iload_n (pc' := 59) dX9_factOf_58 rfl rfl ?_
    have hs8 := h.1
    have h := h.2
    refine Q_iaload (N := 6) (pc' := 60) rfl dX9_factOf_59 i110 (by decide) hs8 rfl ?_
    exact Q_iret dX9_factOf_60 rfl h
  · have h := h.2.2.2.2.2 hk
    refine R_tableOut (tgt := 61) dX9_factOf_1 hs0 hk (by decide) ?_
    refine R_aload_n (pc' := 62) dX9_factOf_61 rfl i108.1 rfl ?_
    refine Q_getfi (J := 4) (pc' := 65) rfl dX9_factOf_62 l_RX9_22 i108 fd9_4.1 fd9_4.2.1 fd9_4.2.2.1 rfl ?_
    refine R_bipush (pc' := 67) dX9_factOf_65 (by decide) rfl ?_
    have hs9 := h.1
    have h := h.2
    refine R_irem (pc' := 68) dX9_factOf_67 (by decide) hs9 (ir_l (by decide) (by decide)) rfl ?_
    exact Q_iret dX9_factOf_68 rfl h
theorem e_X9_factOf {K : SK} {d : Nat} {c : ct} {Q : ct → Int → Prop} (a1 : Int) (a2 : Int) (a3 : Int) (h : WI K (d + 1) mX9_factOf 0 [(2, 108), (0, a1), (0, a2), (0, a3)] [] c Q) : CI K (d + 1) mX9_factOf [(2, 108), (0, a1), (0, a2), (0, a3)] c Q := CM_ofS (by decide) (Nat.le_of_ble_eq_true rfl) _ rfl h
set_option maxRecDepth 100000 in
theorem s_X9_holds_0 {K : SK} {d : Nat} {c : ct} {Q : ct → Int → Prop} (a1 : Int) (a2 : Int) (a3 : Int) (h : ((0 ≤ a1 ∧ a1 < 60)) ∧ WI K (d + 1) mX9_holds 11 [(2, 108), (0, a1), (0, a2), (0, a3), (0, 0), (0, (c 118 a1)), (9, 0), (9, 0), (9, 0)] [] c Q) : WI K (d + 1) mX9_holds 0 [(2, 108), (0, a1), (0, a2), (0, a3), (9, 0), (9, 0), (9, 0), (9, 0), (9, 0)] [] c Q := by
  refine R_iconst (pc' := 1) dX9_holds_0 rfl ?_
  refine R_istore (L' := [_, _, _, _, _, _, _, _, _]) (pc' := 3) dX9_holds_1 (by decide) rfl rfl rfl ?_
  refine R_aload_n (pc' := 4) dX9_holds_3 rfl i108.1 rfl ?_
  refine Q_getfr (v := 118) (J := 19) (pc' := 7) rfl dX9_holds_4 l_RX9_68 i108 fd9_19.1 fd9_19.2.1 fd9_19.2.2.1 fd9_19.2.2.2 f108_19 rfl ?_
  refine R_iload_n (pc' := 8) dX9_holds_7 rfl rfl ?_
  have hs1 := h.1
  have h := h.2
  refine Q_iaload (N := 60) (pc' := 9) rfl dX9_holds_8 i118 (by decide) hs1 rfl ?_
  refine R_istore (L' := [_, _, _, _, _, _, _, _, _]) (pc' := 11) dX9_holds_9 (by decide) rfl rfl rfl ?_
  exact WP_wk (wk_e (wk_e (wk_e (wk_e (wk_e (wk_e (wk_u (wk_u (wk_u wk_n))))))))) h
set_option maxRecDepth 100000 in
theorem s_X9_holds_11 {K : SK} {d : Nat} {c : ct} {Q : ct → Int → Prop} (a1 : Int) (a2 : Int) (a3 : Int) (a4 : Int) (a5 : Int) (h : ((0 ≤ a1 ∧ a1 < 60)) ∧ (ir a5 ∧ ir (c 119 a1)) ∧ ((c 119 a1) ≤ a5 → ((c 123 0) = 0 ∨ (c 123 0) = 1) ∧ Q c (c 123 0)) ∧ (¬ ((c 119 a1) ≤ a5) → ((0 ≤ a5 ∧ a5 < 600)) ∧ ((c 120 a5) = (-33) → ((0 ≤ (a4 - 1) ∧ (a4 - 1) < 100)) ∧ ((c 123 (a4 - 1)) = 0 → ((0 ≤ (a4 - 1) ∧ (a4 - 1) < 100)) ∧ ∀ c8 : ct, c8 = up2 c 123 (a4 - 1) 1 → WI K (d + 1) mX9_holds 11 [(2, 108), (0, a1), (0, a2), (0, a3), (0, a4), (0, (a5 + 1)), (9, 0), (9, 0), (9, 0)] [] c8 Q) ∧ (¬ ((c 123 (a4 - 1)) = 0) → ir (c 123 (a4 - 1)) ∧ ((0 ≤ (a4 - 1) ∧ (a4 - 1) < 100)) ∧ ∀ c10 : ct, c10 = up2 c 123 (a4 - 1) 0 → WI K (d + 1) mX9_holds 11 [(2, 108), (0, a1), (0, a2), (0, a3), (0, a4), (0, (a5 + 1)), (9, 0), (9, 0), (9, 0)] [] c10 Q)) ∧ (¬ ((c 120 a5) = (-33)) → ir (c 120 a5) ∧ (ir (c 120 a5)) ∧ (0 ≤ (c 120 a5) → (ir (c 120 a5)) ∧ CI K d mX9_factOf [(2, 108), (0, (Int.tdiv (c 120 a5) 1000)), (0, a2), (0, a3)] c (fun c15 r16 => (ir (c 120 a5)) ∧ (ir (Int.tdiv (c 120 a5) 100)) ∧ ((Int.tmod (Int.tdiv (c 120 a5) 100) 10) = 0 → (ir (c 120 a5)) ∧ (ir r16 ∧ ir (Int.tmod (c 120 a5) 100)) ∧ ((Int.tmod (c 120 a5) 100) ≤ r16 → ((0 ≤ a4 ∧ a4 < 100)) ∧ ∀ c23 : ct, c23 = up2 c15 123 a4 0 → WI K (d + 1) mX9_holds 11 [(2, 108), (0, a1), (0, a2), (0, a3), (0, (a4 + 1)), (0, (a5 + 1)), (9, 0), (9, 0), (9, 0)] [] c23 Q) ∧ (¬ ((Int.tmod (c 120 a5) 100) ≤ r16) → ((0 ≤ a4 ∧ a4 < 100)) ∧ ∀ c25 : ct, c25 = up2 c15 123 a4 1 → WI K (d + 1) mX9_holds 11 [(2, 108), (0, a1), (0, a2), (0, a3), (0, (a4 + 1)), (0, (a5 + 1)), (9, 0), (9, 0), (9, 0)] [] c25 Q)) ∧ (¬ ((Int.tmod (Int.tdiv (c 120 a5) 100) 10) = 0) → ir (Int.tmod (Int.tdiv (c 120 a5) 100) 10) ∧ ((Int.tmod (Int.tdiv (c 120 a5) 100) 10) = 1 → (ir (c 120 a5)) ∧ (r16 = (Int.tmod (c 120 a5) 100) → ((0 ≤ a4 ∧ a4 < 100)) ∧ ∀ c30 : ct, c30 = up2 c15 123 a4 1 → WI K (d + 1) mX9_holds 11 [(2, 108), (0, a1), (0, a2), (0, a3), (0, (a4 + 1)), (0, (a5 + 1)), (9, 0), (9, 0), (9, 0)] [] c30 Q) ∧ (¬ (r16 = (Int.tmod (c 120 a5) 100)) → (ir r16 ∧ ir (Int.tmod (c 120 a5) 100)) ∧ ((0 ≤ a4 ∧ a4 < 100)) ∧ ∀ c32 : ct, c32 = up2 c15 123 a4 0 → WI K (d + 1) mX9_holds 11 [(2, 108), (0, a1), (0, a2), (0, a3), (0, (a4 + 1)), (0, (a5 + 1)), (9, 0), (9, 0), (9, 0)] [] c32 Q)) ∧ (¬ ((Int.tmod (Int.tdiv (c 120 a5) 100) 10) = 1) → ir (Int.tmod (Int.tdiv (c 120 a5) 100) 10) ∧ (ir (c 120 a5)) ∧ (ir r16 ∧ ir (Int.tmod (c 120 a5) 100)) ∧ (r16 ≤ (Int.tmod (c 120 a5) 100) → ((0 ≤ a4 ∧ a4 < 100)) ∧ ∀ c37 : ct, c37 = up2 c15 123 a4 0 → WI K (d + 1) mX9_holds 11 [(2, 108), (0, a1), (0, a2), (0, a3), (0, (a4 + 1)), (0, (a5 + 1)), (9, 0), (9, 0), (9, 0)] [] c37 Q) ∧ (¬ (r16 ≤ (Int.tmod (c 120 a5) 100)) → ((0 ≤ a4 ∧ a4 < 100)) ∧ ∀ c39 : ct, c39 = up2 c15 123 a4 1 → WI K (d + 1) mX9_holds 11 [(2, 108), (0, a1), (0, a2), (0, a3), (0, (a4 + 1)), (0, (a5 + 1)), (9, 0), (9, 0), (9, 0)] [] c39 Q))))) ∧ (¬ (0 ≤ (c 120 a5)) → ((c 120 a5) = (-38) → ((0 ≤ ((a4 + (-1)) - 1) ∧ ((a4 + (-1)) - 1) < 100)) ∧ ((c 123 ((a4 + (-1)) - 1)) = 0 → ((0 ≤ ((a4 + (-1)) - 1) ∧ ((a4 + (-1)) - 1) < 100)) ∧ ∀ c44 : ct, c44 = up2 c 123 ((a4 + (-1)) - 1) 0 → WI K (d + 1) mX9_holds 11 [(2, 108), (0, a1), (0, a2), (0, a3), (0, (a4 + (-1))), (0, (a5 + 1)), (9, 0), (9, 0), (9, 0)] [] c44 Q) ∧ (¬ ((c 123 ((a4 + (-1)) - 1)) = 0) → ir (c 123 ((a4 + (-1)) - 1)) ∧ ((0 ≤ (a4 + (-1)) ∧ (a4 + (-1)) < 100)) ∧ ((c 123 (a4 + (-1))) = 0 → ((0 ≤ ((a4 + (-1)) - 1) ∧ ((a4 + (-1)) - 1) < 100)) ∧ ∀ c48 : ct, c48 = up2 c 123 ((a4 + (-1)) - 1) 0 → WI K (d + 1) mX9_holds 11 [(2, 108), (0, a1), (0, a2), (0, a3), (0, (a4 + (-1))), (0, (a5 + 1)), (9, 0), (9, 0), (9, 0)] [] c48 Q) ∧ (¬ ((c 123 (a4 + (-1))) = 0) → ir (c 123 (a4 + (-1))) ∧ ((0 ≤ ((a4 + (-1)) - 1) ∧ ((a4 + (-1)) - 1) < 100)) ∧ ∀ c50 : ct, c50 = up2 c 123 ((a4 + (-1)) - 1) 1 → WI K (d + 1) mX9_holds 11 [(2, 108), (0, a1), (0, a2), (0, a3), (0, (a4 + (-1))), (0, (a5 + 1)), (9, 0), (9, 0), (9, 0)] [] c50 Q))) ∧ (¬ ((c 120 a5) = (-38)) → ir (c 120 a5) ∧ ((0 ≤ ((a4 + (-1)) - 1) ∧ ((a4 + (-1)) - 1) < 100)) ∧ ((c 123 ((a4 + (-1)) - 1)) = 0 → ((0 ≤ (a4 + (-1)) ∧ (a4 + (-1)) < 100)) ∧ ((c 123 (a4 + (-1))) = 0 → ((0 ≤ ((a4 + (-1)) - 1) ∧ ((a4 + (-1)) - 1) < 100)) ∧ ∀ c56 : ct, c56 = up2 c 123 ((a4 + (-1)) - 1) 0 → WI K (d + 1) mX9_holds 11 [(2, 108), (0, a1), (0, a2), (0, a3), (0, (a4 + (-1))), (0, (a5 + 1)), (9, 0), (9, 0), (9, 0)] [] c56 Q) ∧ (¬ ((c 123 (a4 + (-1))) = 0) → ir (c 123 (a4 + (-1))) ∧ ((0 ≤ ((a4 + (-1)) - 1) ∧ ((a4 + (-1)) - 1) < 100)) ∧ ∀ c58 : ct, c58 = up2 c 123 ((a4 + (-1)) - 1) 1 → WI K (d + 1) mX9_holds 11 [(2, 108), (0, a1), (0, a2), (0, a3), (0, (a4 + (-1))), (0, (a5 + 1)), (9, 0), (9, 0), (9, 0)] [] c58 Q)) ∧ (¬ ((c 123 ((a4 + (-1)) - 1)) = 0) → ir (c 123 ((a4 + (-1)) - 1)) ∧ ((0 ≤ ((a4 + (-1)) - 1) ∧ ((a4 + (-1)) - 1) < 100)) ∧ ∀ c60 : ct, c60 = up2 c 123 ((a4 + (-1)) - 1) 1 → WI K (d + 1) mX9_holds 11 [(2, 108), (0, a1), (0, a2), (0, a3), (0, (a4 + (-1))), (0, (a5 + 1)), (9, 0), (9, 0), (9, 0)] [] c60 Q)))))) : WI K (d + 1) mX9_holds 11 [(2, 108), (0, a1), (0, a2), (0, a3), (0, a4), (0, a5), (9, 0), (9, 0), (9, 0)] [] c Q := by
  refine R_iload (pc' := 13) dX9_holds_11 rfl rfl ?_
  refine R_aload_n (pc' := 14) dX9_holds_13 rfl i108.1 rfl ?_
  refine Q_getfr (v := 119) (J := 20) (pc' := 17) rfl dX9_holds_14 l_RX9_71 i108 fd9_20.1 fd9_20.2.1 fd9_20.2.2.1 fd9_20.2.2.2 f108_20 rfl ?_
  refine R_iload_n (pc' := 18) dX9_holds_17 rfl rfl ?_
  have hs1 := h.1
  have h := h.2
  refine Q_iaload (N := 60) (pc' := 19) rfl dX9_holds_18 i119 (by decide) hs1 rfl ?_
  have hs3 := h.1
  have h := h.2
  refine R_icmp_ge (tgt := 253) (pc' := 22) dX9_holds_19 (by decide) hs3.1 hs3.2 rfl (fun hc2 => ?_) (fun hc2 => ?_)
  · have h := h.1 hc2
    refine R_aload_n (pc' := 254) dX9_holds_253 rfl i108.1 rfl ?_
    refine Q_getfr (v := 123) (J := 27) (pc' := 257) rfl dX9_holds_254 l_RX9_92 i108 fd9_27.1 fd9_27.2.1 fd9_27.2.2.1 fd9_27.2.2.2 f108_27 rfl ?_
    refine R_iconst (pc' := 258) dX9_holds_257 rfl ?_
    refine Q_zaload (N := 100) (pc' := 259) rfl dX9_holds_258 i123 (by decide) (by decide) rfl ?_
    exact Q_zret dX9_holds_259 rfl h.1 h.2
  · have h := h.2 hc2
    refine R_aload_n (pc' := 23) dX9_holds_22 rfl i108.1 rfl ?_
    refine Q_getfr (v := 120) (J := 21) (pc' := 26) rfl dX9_holds_23 l_RX9_74 i108 fd9_21.1 fd9_21.2.1 fd9_21.2.2.1 fd9_21.2.2.2 f108_21 rfl ?_
    refine R_iload (pc' := 28) dX9_holds_26 rfl rfl ?_
    have hs4 := h.1
    have h := h.2
    refine Q_iaload (N := 600) (pc' := 29) rfl dX9_holds_28 i120 (by decide) hs4 rfl ?_
    refine R_istore (L' := [_, _, _, _, _, _, _, _, _]) (pc' := 31) dX9_holds_29 (by decide) rfl rfl rfl ?_
    refine R_iload (pc' := 33) dX9_holds_31 rfl rfl ?_
    refine R_bipush (pc' := 35) dX9_holds_33 (by decide) rfl ?_
    by_cases hc5 : (c 120 a5) = (-33)
    · have h := h.1 hc5
      refine R_neS_ic (tgt := 67) (pc' := 38) dX9_holds_35 (by decide) hc5 rfl ?_
      refine R_aload_n (pc' := 39) dX9_holds_38 rfl i108.1 rfl ?_
      refine Q_getfr (v := 123) (J := 27) (pc' := 42) rfl dX9_holds_39 l_RX9_92 i108 fd9_27.1 fd9_27.2.1 fd9_27.2.2.1 fd9_27.2.2.2 f108_27 rfl ?_
      refine R_iload (pc' := 44) dX9_holds_42 rfl rfl ?_
      refine R_iconst (pc' := 45) dX9_holds_44 rfl ?_
      refine R_isub (pc' := 46) dX9_holds_45 rfl ?_
      refine R_aload_n (pc' := 47) dX9_holds_46 rfl i108.1 rfl ?_
      refine Q_getfr (v := 123) (J := 27) (pc' := 50) rfl dX9_holds_47 l_RX9_92 i108 fd9_27.1 fd9_27.2.1 fd9_27.2.2.1 fd9_27.2.2.2 f108_27 rfl ?_
      refine R_iload (pc' := 52) dX9_holds_50 rfl rfl ?_
      refine R_iconst (pc' := 53) dX9_holds_52 rfl ?_
      refine R_isub (pc' := 54) dX9_holds_53 rfl ?_
      have hs6 := h.1
      have h := h.2
      refine Q_zaload (N := 100) (pc' := 55) rfl dX9_holds_54 i123 (by decide) hs6 rfl ?_
      by_cases hc7 : (c 123 (a4 - 1)) = 0
      · have h := h.1 hc7
        refine R_neS_if (tgt := 62) (pc' := 58) dX9_holds_55 (by decide) hc7 rfl ?_
        refine R_iconst (pc' := 59) dX9_holds_58 rfl ?_
        refine R_goto (tgt := 63) dX9_holds_59 (by decide) ?_
        have hs9 := h.1
        have h := h.2
        refine Q_zastore (N := 100) (pc' := 64) rfl dX9_holds_63 i123 (by decide) hs9 (Or.inr rfl) rfl (fun c8 hc8 => ?_)
        have h := h c8 hc8
        refine R_goto (tgt := 247) dX9_holds_64 (by decide) ?_
        refine R_iinc (L' := [_, _, _, _, _, _, _, _, _]) (pc' := 250) dX9_holds_247 rfl (by decide) rfl rfl rfl ?_
        refine R_goto (tgt := 11) dX9_holds_250 (by decide) ?_
        exact WP_wk (wk_e (wk_e (wk_e (wk_e (wk_e (wk_e (wk_u (wk_u (wk_u wk_n))))))))) h
      · have h := h.2 hc7
        refine R_neD_if (tgt := 62) (pc' := 58) dX9_holds_55 (by decide) hc7 h.1 rfl ?_
        have h := h.2
        refine R_iconst (pc' := 63) dX9_holds_62 rfl ?_
        have hs11 := h.1
        have h := h.2
        refine Q_zastore (N := 100) (pc' := 64) rfl dX9_holds_63 i123 (by decide) hs11 (Or.inl rfl) rfl (fun c10 hc10 => ?_)
        have h := h c10 hc10
        refine R_goto (tgt := 247) dX9_holds_64 (by decide) ?_
        refine R_iinc (L' := [_, _, _, _, _, _, _, _, _]) (pc' := 250) dX9_holds_247 rfl (by decide) rfl rfl rfl ?_
        refine R_goto (tgt := 11) dX9_holds_250 (by decide) ?_
        exact WP_wk (wk_e (wk_e (wk_e (wk_e (wk_e (wk_e (wk_u (wk_u (wk_u wk_n))))))))) h
    · have h := h.2 hc5
      refine R_neD_ic (tgt := 67) (pc' := 38) dX9_holds_35 (by decide) hc5 ⟨h.1, ir_l (by decide) (by decide)⟩ rfl ?_
      have h := h.2
      refine R_iload (pc' := 69) dX9_holds_67 rfl rfl ?_
      have hs13 := h.1
      have h := h.2
      refine R_if_ge (tgt := 151) (pc' := 72) dX9_holds_69 (by decide) hs13  rfl (fun hc12 => ?_) (fun hc12 => ?_)
      · have h := h.1 hc12
        refine R_aload_n (pc' := 152) dX9_holds_151 rfl i108.1 rfl ?_
        refine R_iload (pc' := 154) dX9_holds_152 rfl rfl ?_
        refine R_sipush (pc' := 157) dX9_holds_154 (by decide) rfl ?_
        have hs14 := h.1
        have h := h.2
        refine R_idiv (pc' := 158) dX9_holds_157 (by decide) hs14 (ir_l (by decide) (by decide)) rfl ?_
        refine R_iload_n (pc' := 159) dX9_holds_158 rfl rfl ?_
        refine R_iload_n (pc' := 160) dX9_holds_159 rfl rfl ?_
        refine Q_callVI (vs := [(0, (Int.tdiv (c 120 a5) 1000)), (0, a2), (0, a3)]) (st := []) (pc' := 163) dX9_holds_160 l_RX9_335 i108 (by decide) rfl rfl (Nat.le_of_ble_eq_true rfl) rfl (Nat.zero_le _) (Nat.zero_le _) rfl ?_
        refine CI.mono h (fun c15 r16 h => ?_)
        refine R_istore (L' := [_, _, _, _, _, _, _, _, _]) (pc' := 165) dX9_holds_163 (by decide) rfl rfl rfl ?_
        refine R_iload (pc' := 167) dX9_holds_165 rfl rfl ?_
        refine R_bipush (pc' := 169) dX9_holds_167 (by decide) rfl ?_
        have hs17 := h.1
        have h := h.2
        refine R_idiv (pc' := 170) dX9_holds_169 (by decide) hs17 (ir_l (by decide) (by decide)) rfl ?_
        refine R_bipush (pc' := 172) dX9_holds_170 (by decide) rfl ?_
        have hs18 := h.1
        have h := h.2
        refine R_irem (pc' := 173) dX9_holds_172 (by decide) hs18 (ir_l (by decide) (by decide)) rfl ?_
        refine R_istore (L' := [_, _, _, _, _, _, _, _, _]) (pc' := 175) dX9_holds_173 (by decide) rfl rfl rfl ?_
        refine R_aload_n (pc' := 176) dX9_holds_175 rfl i108.1 rfl ?_
        refine Q_getfr (v := 123) (J := 27) (pc' := 179) rfl dX9_holds_176 l_RX9_92 i108 fd9_27.1 fd9_27.2.1 fd9_27.2.2.1 fd9_27.2.2.2 f108_27 rfl ?_
        refine R_iload (pc' := 181) dX9_holds_179 rfl rfl ?_
        refine R_iload (pc' := 183) dX9_holds_181 rfl rfl ?_
        by_cases hc19 : (Int.tmod (Int.tdiv (c 120 a5) 100) 10) = 0
        · have h := h.1 hc19
          refine R_neS_if (tgt := 204) (pc' := 186) dX9_holds_183 (by decide) hc19 rfl ?_
          refine R_iload (pc' := 188) dX9_holds_186 rfl rfl ?_
          refine R_iload (pc' := 190) dX9_holds_188 rfl rfl ?_
          refine R_bipush (pc' := 192) dX9_holds_190 (by decide) rfl ?_
          have hs20 := h.1
          have h := h.2
          refine R_irem (pc' := 193) dX9_holds_192 (by decide) hs20 (ir_l (by decide) (by decide)) rfl ?_
          have hs22 := h.1
          have h := h.2
          refine R_icmp_ge (tgt := 200) (pc' := 196) dX9_holds_193 (by decide) hs22.1 hs22.2 rfl (fun hc21 => ?_) (fun hc21 => ?_)
          · have h := h.1 hc21
            refine R_iconst (pc' := 201) dX9_holds_200 rfl ?_
            refine R_goto (tgt := 243) dX9_holds_201 (by decide) ?_
            have hs24 := h.1
            have h := h.2
            refine Q_zastore (N := 100) (pc' := 244) rfl dX9_holds_243 i123 (by decide) hs24 (Or.inl rfl) rfl (fun c23 hc23 => ?_)
            have h := h c23 hc23
            refine R_iinc (L' := [_, _, _, _, _, _, _, _, _]) (pc' := 247) dX9_holds_244 rfl (by decide) rfl rfl rfl ?_
            refine R_iinc (L' := [_, _, _, _, _, _, _, _, _]) (pc' := 250) dX9_holds_247 rfl (by decide) rfl rfl rfl ?_
            refine R_goto (tgt := 11) dX9_holds_250 (by decide) ?_
            exact WP_wk (wk_e (wk_e (wk_e (wk_e (wk_e (wk_e (wk_u (wk_u (wk_u wk_n))))))))) h
          · have h := h.2 hc21
            refine R_iconst (pc' := 197) dX9_holds_196 rfl ?_
            refine R_goto (tgt := 243) dX9_holds_197 (by decide) ?_
            have hs26 := h.1
            have h := h.2
            refine Q_zastore (N := 100) (pc' := 244) rfl dX9_holds_243 i123 (by decide) hs26 (Or.inr rfl) rfl (fun c25 hc25 => ?_)
            have h := h c25 hc25
            refine R_iinc (L' := [_, _, _, _, _, _, _, _, _]) (pc' := 247) dX9_holds_244 rfl (by decide) rfl rfl rfl ?_
            refine R_iinc (L' := [_, _, _, _, _, _, _, _, _]) (pc' := 250) dX9_holds_247 rfl (by decide) rfl rfl rfl ?_
            refine R_goto (tgt := 11) dX9_holds_250 (by decide) ?_
            exact WP_wk (wk_e (wk_e (wk_e (wk_e (wk_e (wk_e (wk_u (wk_u (wk_u wk_n))))))))) h
        · have h := h.2 hc19
          refine R_neD_if (tgt := 204) (pc' := 186) dX9_holds_183 (by decide) hc19 h.1 rfl ?_
          have h := h.2
          refine R_iload (pc' := 206) dX9_holds_204 rfl rfl ?_
          refine R_iconst (pc' := 207) dX9_holds_206 rfl ?_
          by_cases hc27 : (Int.tmod (Int.tdiv (c 120 a5) 100) 10) = 1
          · have h := h.1 hc27
            refine R_neS_ic (tgt := 228) (pc' := 210) dX9_holds_207 (by decide) hc27 rfl ?_
            refine R_iload (pc' := 212) dX9_holds_210 rfl rfl ?_
            refine R_iload (pc' := 214) dX9_holds_212 rfl rfl ?_
            refine R_bipush (pc' := 216) dX9_holds_214 (by decide) rfl ?_
            have hs28 := h.1
            have h := h.2
            refine R_irem (pc' := 217) dX9_holds_216 (by decide) hs28 (ir_l (by decide) (by decide)) rfl ?_
            by_cases hc29 : r16 = (Int.tmod (c 120 a5) 100)
            · have h := h.1 hc29
              refine R_neS_ic (tgt := 224) (pc' := 220) dX9_holds_217 (by decide) hc29 rfl ?_
              refine R_iconst (pc' := 221) dX9_holds_220 rfl ?_
              refine R_goto (tgt := 243) dX9_holds_221 (by decide) ?_
              have hs31 := h.1
              have h := h.2
              refine Q_zastore (N := 100) (pc' := 244) rfl dX9_holds_243 i123 (by decide) hs31 (Or.inr rfl) rfl (fun c30 hc30 => ?_)
              have h := h c30 hc30
              refine R_iinc (L' := [_, _, _, _, _, _, _, _, _]) (pc' := 247) dX9_holds_244 rfl (by decide) rfl rfl rfl ?_
              refine R_iinc (L' := [_, _, _, _, _, _, _, _, _]) (pc' := 250) dX9_holds_247 rfl (by decide) rfl rfl rfl ?_
              refine R_goto (tgt := 11) dX9_holds_250 (by decide) ?_
              exact WP_wk (wk_e (wk_e (wk_e (wk_e (wk_e (wk_e (wk_u (wk_u (wk_u wk_n))))))))) h
            · have h := h.2 hc29
              refine R_neD_ic (tgt := 224) (pc' := 220) dX9_holds_217 (by decide) hc29 h.1 rfl ?_
              have h := h.2
              refine R_iconst (pc' := 225) dX9_holds_224 rfl ?_
              refine R_goto (tgt := 243) dX9_holds_225 (by decide) ?_
              have hs33 := h.1
              have h := h.2
              refine Q_zastore (N := 100) (pc' := 244) rfl dX9_holds_243 i123 (by decide) hs33 (Or.inl rfl) rfl (fun c32 hc32 => ?_)
              have h := h c32 hc32
              refine R_iinc (L' := [_, _, _, _, _, _, _, _, _]) (pc' := 247) dX9_holds_244 rfl (by decide) rfl rfl rfl ?_
              refine R_iinc (L' := [_, _, _, _, _, _, _, _, _]) (pc' := 250) dX9_holds_247 rfl (by decide) rfl rfl rfl ?_
              refine R_goto (tgt := 11) dX9_holds_250 (by decide) ?_
              exact WP_wk (wk_e (wk_e (wk_e (wk_e (wk_e (wk_e (wk_u (wk_u (wk_u wk_n))))))))) h
          · have h := h.2 hc27
            refine R_neD_ic (tgt := 228) (pc' := 210) dX9_holds_207 (by decide) hc27 ⟨h.1, ir_l (by decide) (by decide)⟩ rfl ?_
            have h := h.2
            refine R_iload (pc' := 230) dX9_holds_228 rfl rfl ?_
            refine R_iload (pc' := 232) dX9_holds_230 rfl rfl ?_
            refine R_bipush (pc' := 234) dX9_holds_232 (by decide) rfl ?_
            have hs34 := h.1
            have h := h.2
            refine R_irem (pc' := 235) dX9_holds_234 (by decide) hs34 (ir_l (by decide) (by decide)) rfl ?_
            have hs36 := h.1
            have h := h.2
            refine R_icmp_le (tgt := 242) (pc' := 238) dX9_holds_235 (by decide) hs36.1 hs36.2 rfl (fun hc35 => ?_) (fun hc35 => ?_)
            · have h := h.1 hc35
              refine R_iconst (pc' := 243) dX9_holds_242 rfl ?_
              have hs38 := h.1
              have h := h.2
              refine Q_zastore (N := 100) (pc' := 244) rfl dX9_holds_243 i123 (by decide) hs38 (Or.inl rfl) rfl (fun c37 hc37 => ?_)
              have h := h c37 hc37
              refine R_iinc (L' := [_, _, _, _, _, _, _, _, _]) (pc' := 247) dX9_holds_244 rfl (by decide) rfl rfl rfl ?_
              refine R_iinc (L' := [_, _, _, _, _, _, _, _, _]) (pc' := 250) dX9_holds_247 rfl (by decide) rfl rfl rfl ?_
              refine R_goto (tgt := 11) dX9_holds_250 (by decide) ?_
              exact WP_wk (wk_e (wk_e (wk_e (wk_e (wk_e (wk_e (wk_u (wk_u (wk_u wk_n))))))))) h
            · have h := h.2 hc35
              refine R_iconst (pc' := 239) dX9_holds_238 rfl ?_
              refine R_goto (tgt := 243) dX9_holds_239 (by decide) ?_
              have hs40 := h.1
              have h := h.2
              refine Q_zastore (N := 100) (pc' := 244) rfl dX9_holds_243 i123 (by decide) hs40 (Or.inr rfl) rfl (fun c39 hc39 => ?_)
              have h := h c39 hc39
              refine R_iinc (L' := [_, _, _, _, _, _, _, _, _]) (pc' := 247) dX9_holds_244 rfl (by decide) rfl rfl rfl ?_
              refine R_iinc (L' := [_, _, _, _, _, _, _, _, _]) (pc' := 250) dX9_holds_247 rfl (by decide) rfl rfl rfl ?_
              refine R_goto (tgt := 11) dX9_holds_250 (by decide) ?_
              exact WP_wk (wk_e (wk_e (wk_e (wk_e (wk_e (wk_e (wk_u (wk_u (wk_u wk_n))))))))) h
      · have h := h.2 hc12
        refine R_iinc (L' := [_, _, _, _, _, _, _, _, _]) (pc' := 75) dX9_holds_72 rfl (by decide) rfl rfl rfl ?_
        refine R_aload_n (pc' := 76) dX9_holds_75 rfl i108.1 rfl ?_
        refine Q_getfr (v := 123) (J := 27) (pc' := 79) rfl dX9_holds_76 l_RX9_92 i108 fd9_27.1 fd9_27.2.1 fd9_27.2.2.1 fd9_27.2.2.2 f108_27 rfl ?_
        refine R_iload (pc' := 81) dX9_holds_79 rfl rfl ?_
        refine R_iconst (pc' := 82) dX9_holds_81 rfl ?_
        refine R_isub (pc' := 83) dX9_holds_82 rfl ?_
        refine R_iload (pc' := 85) dX9_holds_83 rfl rfl ?_
        refine R_bipush (pc' := 87) dX9_holds_85 (by decide) rfl ?_
        by_cases hc41 : (c 120 a5) = (-38)
        · have h := h.1 hc41
          refine R_neS_ic (tgt := 120) (pc' := 90) dX9_holds_87 (by decide) hc41 rfl ?_
          refine R_aload_n (pc' := 91) dX9_holds_90 rfl i108.1 rfl ?_
          refine Q_getfr (v := 123) (J := 27) (pc' := 94) rfl dX9_holds_91 l_RX9_92 i108 fd9_27.1 fd9_27.2.1 fd9_27.2.2.1 fd9_27.2.2.2 f108_27 rfl ?_
          refine R_iload (pc' := 96) dX9_holds_94 rfl rfl ?_
          refine R_iconst (pc' := 97) dX9_holds_96 rfl ?_
          refine R_isub (pc' := 98) dX9_holds_97 rfl ?_
          have hs42 := h.1
          have h := h.2
          refine Q_zaload (N := 100) (pc' := 99) rfl dX9_holds_98 i123 (by decide) hs42 rfl ?_
          by_cases hc43 : (c 123 ((a4 + (-1)) - 1)) = 0
          · have h := h.1 hc43
            refine R_eqS_if (tgt := 116) (pc' := 102) dX9_holds_99 (by decide) hc43 rfl ?_
            refine R_iconst (pc' := 117) dX9_holds_116 rfl ?_
            refine R_goto (tgt := 147) dX9_holds_117 (by decide) ?_
            have hs45 := h.1
            have h := h.2
            refine Q_zastore (N := 100) (pc' := 148) rfl dX9_holds_147 i123 (by decide) hs45 (Or.inl rfl) rfl (fun c44 hc44 => ?_)
            have h := h c44 hc44
            refine R_goto (tgt := 247) dX9_holds_148 (by decide) ?_
            refine R_iinc (L' := [_, _, _, _, _, _, _, _, _]) (pc' := 250) dX9_holds_247 rfl (by decide) rfl rfl rfl ?_
            refine R_goto (tgt := 11) dX9_holds_250 (by decide) ?_
            exact WP_wk (wk_e (wk_e (wk_e (wk_e (wk_e (wk_e (wk_u (wk_u (wk_u wk_n))))))))) h
          · have h := h.2 hc43
            refine R_eqD_if (tgt := 116) (pc' := 102) dX9_holds_99 (by decide) hc43 h.1 rfl ?_
            have h := h.2
            refine R_aload_n (pc' := 103) dX9_holds_102 rfl i108.1 rfl ?_
            refine Q_getfr (v := 123) (J := 27) (pc' := 106) rfl dX9_holds_103 l_RX9_92 i108 fd9_27.1 fd9_27.2.1 fd9_27.2.2.1 fd9_27.2.2.2 f108_27 rfl ?_
            refine R_iload (pc' := 108) dX9_holds_106 rfl rfl ?_
            have hs46 := h.1
            have h := h.2
            refine Q_zaload (N := 100) (pc' := 109) rfl dX9_holds_108 i123 (by decide) hs46 rfl ?_
            by_cases hc47 : (c 123 (a4 + (-1))) = 0
            · have h := h.1 hc47
              refine R_eqS_if (tgt := 116) (pc' := 112) dX9_holds_109 (by decide) hc47 rfl ?_
              refine R_iconst (pc' := 117) dX9_holds_116 rfl ?_
              refine R_goto (tgt := 147) dX9_holds_117 (by decide) ?_
              have hs49 := h.1
              have h := h.2
              refine Q_zastore (N := 100) (pc' := 148) rfl dX9_holds_147 i123 (by decide) hs49 (Or.inl rfl) rfl (fun c48 hc48 => ?_)
              have h := h c48 hc48
              refine R_goto (tgt := 247) dX9_holds_148 (by decide) ?_
              refine R_iinc (L' := [_, _, _, _, _, _, _, _, _]) (pc' := 250) dX9_holds_247 rfl (by decide) rfl rfl rfl ?_
              refine R_goto (tgt := 11) dX9_holds_250 (by decide) ?_
              exact WP_wk (wk_e (wk_e (wk_e (wk_e (wk_e (wk_e (wk_u (wk_u (wk_u wk_n))))))))) h
            · have h := h.2 hc47
              refine R_eqD_if (tgt := 116) (pc' := 112) dX9_holds_109 (by decide) hc47 h.1 rfl ?_
              have h := h.2
              refine R_iconst (pc' := 113) dX9_holds_112 rfl ?_
              refine R_goto (tgt := 147) dX9_holds_113 (by decide) ?_
              have hs51 := h.1
              have h := h.2
              refine Q_zastore (N := 100) (pc' := 148) rfl dX9_holds_147 i123 (by decide) hs51 (Or.inr rfl) rfl (fun c50 hc50 => ?_)
              have h := h c50 hc50
              refine R_goto (tgt := 247) dX9_holds_148 (by decide) ?_
              refine R_iinc (L' := [_, _, _, _, _, _, _, _, _]) (pc' := 250) dX9_holds_247 rfl (by decide) rfl rfl rfl ?_
              refine R_goto (tgt := 11) dX9_holds_250 (by decide) ?_
              exact WP_wk (wk_e (wk_e (wk_e (wk_e (wk_e (wk_e (wk_u (wk_u (wk_u wk_n))))))))) h
        · have h := h.2 hc41
          refine R_neD_ic (tgt := 120) (pc' := 90) dX9_holds_87 (by decide) hc41 ⟨h.1, ir_l (by decide) (by decide)⟩ rfl ?_
          have h := h.2
          refine R_aload_n (pc' := 121) dX9_holds_120 rfl i108.1 rfl ?_
          refine Q_getfr (v := 123) (J := 27) (pc' := 124) rfl dX9_holds_121 l_RX9_92 i108 fd9_27.1 fd9_27.2.1 fd9_27.2.2.1 fd9_27.2.2.2 f108_27 rfl ?_
          refine R_iload (pc' := 126) dX9_holds_124 rfl rfl ?_
          refine R_iconst (pc' := 127) dX9_holds_126 rfl ?_
          refine R_isub (pc' := 128) dX9_holds_127 rfl ?_
          have hs52 := h.1
          have h := h.2
          refine Q_zaload (N := 100) (pc' := 129) rfl dX9_holds_128 i123 (by decide) hs52 rfl ?_
          by_cases hc53 : (c 123 ((a4 + (-1)) - 1)) = 0
          · have h := h.1 hc53
            refine R_neS_if (tgt := 142) (pc' := 132) dX9_holds_129 (by decide) hc53 rfl ?_
            refine R_aload_n (pc' := 133) dX9_holds_132 rfl i108.1 rfl ?_
            refine Q_getfr (v := 123) (J := 27) (pc' := 136) rfl dX9_holds_133 l_RX9_92 i108 fd9_27.1 fd9_27.2.1 fd9_27.2.2.1 fd9_27.2.2.2 f108_27 rfl ?_
            refine R_iload (pc' := 138) dX9_holds_136 rfl rfl ?_
            have hs54 := h.1
            have h := h.2
            refine Q_zaload (N := 100) (pc' := 139) rfl dX9_holds_138 i123 (by decide) hs54 rfl ?_
            by_cases hc55 : (c 123 (a4 + (-1))) = 0
            · have h := h.1 hc55
              refine R_eqS_if (tgt := 146) (pc' := 142) dX9_holds_139 (by decide) hc55 rfl ?_
              refine R_iconst (pc' := 147) dX9_holds_146 rfl ?_
              have hs57 := h.1
              have h := h.2
              refine Q_zastore (N := 100) (pc' := 148) rfl dX9_holds_147 i123 (by decide) hs57 (Or.inl rfl) rfl (fun c56 hc56 => ?_)
              have h := h c56 hc56
              refine R_goto (tgt := 247) dX9_holds_148 (by decide) ?_
              refine R_iinc (L' := [_, _, _, _, _, _, _, _, _]) (pc' := 250) dX9_holds_247 rfl (by decide) rfl rfl rfl ?_
              refine R_goto (tgt := 11) dX9_holds_250 (by decide) ?_
              exact WP_wk (wk_e (wk_e (wk_e (wk_e (wk_e (wk_e (wk_u (wk_u (wk_u wk_n))))))))) h
            · have h := h.2 hc55
              refine R_eqD_if (tgt := 146) (pc' := 142) dX9_holds_139 (by decide) hc55 h.1 rfl ?_
              have h := h.2
              refine R_iconst (pc' := 143) dX9_holds_142 rfl ?_
              refine R_goto (tgt := 147) dX9_holds_143 (by decide) ?_
              have hs59 := h.1
              have h := h.2
              refine Q_zastore (N := 100) (pc' := 148) rfl dX9_holds_147 i123 (by decide) hs59 (Or.inr rfl) rfl (fun c58 hc58 => ?_)
              have h := h c58 hc58
              refine R_goto (tgt := 247) dX9_holds_148 (by decide) ?_
              refine R_iinc (L' := [_, _, _, _, _, _, _, _, _]) (pc' := 250) dX9_holds_247 rfl (by decide) rfl rfl rfl ?_
              refine R_goto (tgt := 11) dX9_holds_250 (by decide) ?_
              exact WP_wk (wk_e (wk_e (wk_e (wk_e (wk_e (wk_e (wk_u (wk_u (wk_u wk_n))))))))) h
          · have h := h.2 hc53
            refine R_neD_if (tgt := 142) (pc' := 132) dX9_holds_129 (by decide) hc53 h.1 rfl ?_
            have h := h.2
            refine R_iconst (pc' := 143) dX9_holds_142 rfl ?_
            refine R_goto (tgt := 147) dX9_holds_143 (by decide) ?_
            have hs61 := h.1
            have h := h.2
            refine Q_zastore (N := 100) (pc' := 148) rfl dX9_holds_147 i123 (by decide) hs61 (Or.inr rfl) rfl (fun c60 hc60 => ?_)
            have h := h c60 hc60
            refine R_goto (tgt := 247) dX9_holds_148 (by decide) ?_
            refine R_iinc (L' := [_, _, _, _, _, _, _, _, _]) (pc' := 250) dX9_holds_247 rfl (by decide) rfl rfl rfl ?_
            refine R_goto (tgt := 11) dX9_holds_250 (by decide) ?_
            exact WP_wk (wk_e (wk_e (wk_e (wk_e (wk_e (wk_e (wk_u (wk_u (wk_u wk_n))))))))) h
theorem e_X9_holds {K : SK} {d : Nat} {c : ct} {Q : ct → Int → Prop} (a1 : Int) (a2 : Int) (a3 : Int) (h : WI K (d + 1) mX9_holds 0 [(2, 108), (0, a1), (0, a2), (0, a3), (9, 0), (9, 0), (9, 0), (9, 0), (9, 0)] [] c Q) : CI K (d + 1) mX9_holds [(2, 108), (0, a1), (0, a2), (0, a3)] c Q := CM_ofS (by decide) (Nat.le_of_ble_eq_true rfl) _ rfl h
set_option maxRecDepth 100000 in
theorem s_X9_likesOf_0 {K : SK} {d : Nat} {c : ct} {Q : ct → Int → Prop} (a1 : Int) (a2 : Int) (h : CI K d mX9_begin [(2, 108)] c (fun c1 r2 => WI K (d + 1) mX9_likesOf 8 [(2, 108), (0, a1), (0, a2), (0, 2), (0, r2)] [] c1 Q)) : WI K (d + 1) mX9_likesOf 0 [(2, 108), (0, a1), (0, a2), (9, 0), (9, 0)] [] c Q := by
  refine R_iconst (pc' := 1) dX9_likesOf_0 rfl ?_
  refine R_istore_n (L' := [_, _, _, _, _]) (pc' := 2) dX9_likesOf_1 (by decide) rfl rfl rfl ?_
  refine R_aload_n (pc' := 3) dX9_likesOf_2 rfl i108.1 rfl ?_
  refine Q_callVI (vs := []) (st := []) (pc' := 6) dX9_likesOf_3 l_RX9_329 i108 (by decide) rfl rfl (Nat.le_of_ble_eq_true rfl) rfl (Nat.zero_le _) (Nat.zero_le _) rfl ?_
  refine CI.mono h (fun c1 r2 h => ?_)
  refine R_istore (L' := [_, _, _, _, _]) (pc' := 8) dX9_likesOf_6 (by decide) rfl rfl rfl ?_
  exact WP_wk (wk_e (wk_e (wk_e (wk_e (wk_e wk_n))))) h
set_option maxRecDepth 100000 in
theorem s_X9_likesOf_8 {K : SK} {d : Nat} {c : ct} {Q : ct → Int → Prop} (a1 : Int) (a2 : Int) (a3 : Int) (a4 : Int) (h : CI K d mX9_behind [(2, 108)] c (fun c1 r2 => (ir a4 ∧ ir r2) ∧ (r2 ≤ a4 → Q c1 a3) ∧ (¬ (r2 ≤ a4) → ((0 ≤ a4 ∧ a4 < 60)) ∧ (ir (c1 116 a4)) ∧ (1 < (c1 116 a4) → WI K (d + 1) mX9_likesOf 8 [(2, 108), (0, a1), (0, a2), (0, a3), (0, (a4 + 1))] [] c1 Q) ∧ (¬ (1 < (c1 116 a4)) → CI K d mX9_holds [(2, 108), (0, a4), (0, a1), (0, a2)] c1 (fun c8 r9 => (r9 = 0 → WI K (d + 1) mX9_likesOf 8 [(2, 108), (0, a1), (0, a2), (0, a3), (0, (a4 + 1))] [] c8 Q) ∧ (¬ (r9 = 0) → ir r9 ∧ ((0 ≤ a4 ∧ a4 < 60)) ∧ ((c8 116 a4) = 0 → ((0 ≤ a4 ∧ a4 < 60)) ∧ WI K (d + 1) mX9_likesOf 8 [(2, 108), (0, a1), (0, a2), (0, (a3 + (c8 117 a4))), (0, (a4 + 1))] [] c8 Q) ∧ (¬ ((c8 116 a4) = 0) → ir (c8 116 a4) ∧ ((0 ≤ a4 ∧ a4 < 60)) ∧ WI K (d + 1) mX9_likesOf 8 [(2, 108), (0, a1), (0, a2), (0, (a3 + (-(c8 117 a4)))), (0, (a4 + 1))] [] c8 Q))))))) : WI K (d + 1) mX9_likesOf 8 [(2, 108), (0, a1), (0, a2), (0, a3), (0, a4)] [] c Q := by
  refine R_iload (pc' := 10) dX9_likesOf_8 rfl rfl ?_
  refine R_aload_n (pc' := 11) dX9_likesOf_10 rfl i108.1 rfl ?_
  refine Q_callVI (vs := []) (st := [(0, a4)]) (pc' := 14) dX9_likesOf_11 l_RX9_332 i108 (by decide) rfl rfl (Nat.le_of_ble_eq_true rfl) rfl (Nat.zero_le _) (Nat.zero_le _) rfl ?_
  refine CI.mono h (fun c1 r2 h => ?_)
  have hs4 := h.1
  have h := h.2
  refine R_icmp_ge (tgt := 79) (pc' := 17) dX9_likesOf_14 (by decide) hs4.1 hs4.2 rfl (fun hc3 => ?_) (fun hc3 => ?_)
  · have h := h.1 hc3
    refine R_iload_n (pc' := 80) dX9_likesOf_79 rfl rfl ?_
    exact Q_iret dX9_likesOf_80 rfl h
  · have h := h.2 hc3
    refine R_aload_n (pc' := 18) dX9_likesOf_17 rfl i108.1 rfl ?_
    refine Q_getfr (v := 116) (J := 17) (pc' := 21) rfl dX9_likesOf_18 l_RX9_62 i108 fd9_17.1 fd9_17.2.1 fd9_17.2.2.1 fd9_17.2.2.2 f108_17 rfl ?_
    refine R_iload (pc' := 23) dX9_likesOf_21 rfl rfl ?_
    have hs5 := h.1
    have h := h.2
    refine Q_iaload (N := 60) (pc' := 24) rfl dX9_likesOf_23 i116 (by decide) hs5 rfl ?_
    refine R_iconst (pc' := 25) dX9_likesOf_24 rfl ?_
    have hs7 := h.1
    have h := h.2
    refine R_icmp_gt (tgt := 73) (pc' := 28) dX9_likesOf_25 (by decide) hs7 (ir_l (by decide) (by decide)) rfl (fun hc6 => ?_) (fun hc6 => ?_)
    · have h := h.1 hc6
      refine R_iinc (L' := [_, _, _, _, _]) (pc' := 76) dX9_likesOf_73 rfl (by decide) rfl rfl rfl ?_
      refine R_goto (tgt := 8) dX9_likesOf_76 (by decide) ?_
      exact WP_wk (wk_e (wk_e (wk_e (wk_e (wk_e wk_n))))) h
    · have h := h.2 hc6
      refine R_aload_n (pc' := 29) dX9_likesOf_28 rfl i108.1 rfl ?_
      refine R_iload (pc' := 31) dX9_likesOf_29 rfl rfl ?_
      refine R_iload_n (pc' := 32) dX9_likesOf_31 rfl rfl ?_
      refine R_iload_n (pc' := 33) dX9_likesOf_32 rfl rfl ?_
      refine Q_callVI (vs := [(0, a4), (0, a1), (0, a2)]) (st := []) (pc' := 36) dX9_likesOf_33 l_RX9_339 i108 (by decide) rfl rfl (Nat.le_of_ble_eq_true rfl) rfl (Nat.zero_le _) (Nat.zero_le _) rfl ?_
      refine CI.mono h (fun c8 r9 h => ?_)
      by_cases hc10 : r9 = 0
      · have h := h.1 hc10
        refine R_neS_if (tgt := 42) (pc' := 39) dX9_likesOf_36 (by decide) hc10 rfl ?_
        refine R_goto (tgt := 73) dX9_likesOf_39 (by decide) ?_
        refine R_iinc (L' := [_, _, _, _, _]) (pc' := 76) dX9_likesOf_73 rfl (by decide) rfl rfl rfl ?_
        refine R_goto (tgt := 8) dX9_likesOf_76 (by decide) ?_
        exact WP_wk (wk_e (wk_e (wk_e (wk_e (wk_e wk_n))))) h
      · have h := h.2 hc10
        refine R_neD_if (tgt := 42) (pc' := 39) dX9_likesOf_36 (by decide) hc10 h.1 rfl ?_
        have h := h.2
        refine R_iload_n (pc' := 43) dX9_likesOf_42 rfl rfl ?_
        refine R_aload_n (pc' := 44) dX9_likesOf_43 rfl i108.1 rfl ?_
        refine Q_getfr (v := 116) (J := 17) (pc' := 47) rfl dX9_likesOf_44 l_RX9_62 i108 fd9_17.1 fd9_17.2.1 fd9_17.2.2.1 fd9_17.2.2.2 f108_17 rfl ?_
        refine R_iload (pc' := 49) dX9_likesOf_47 rfl rfl ?_
        have hs11 := h.1
        have h := h.2
        refine Q_iaload (N := 60) (pc' := 50) rfl dX9_likesOf_49 i116 (by decide) hs11 rfl ?_
        by_cases hc12 : (c8 116 a4) = 0
        · have h := h.1 hc12
          refine R_neS_if (tgt := 63) (pc' := 53) dX9_likesOf_50 (by decide) hc12 rfl ?_
          refine R_aload_n (pc' := 54) dX9_likesOf_53 rfl i108.1 rfl ?_
          refine Q_getfr (v := 117) (J := 18) (pc' := 57) rfl dX9_likesOf_54 l_RX9_65 i108 fd9_18.1 fd9_18.2.1 fd9_18.2.2.1 fd9_18.2.2.2 f108_18 rfl ?_
          refine R_iload (pc' := 59) dX9_likesOf_57 rfl rfl ?_
          have hs13 := h.1
          have h := h.2
          refine Q_iaload (N := 60) (pc' := 60) rfl dX9_likesOf_59 i117 (by decide) hs13 rfl ?_
          refine R_goto (tgt := 71) dX9_likesOf_60 (by decide) ?_
          refine R_iadd (pc' := 72) dX9_likesOf_71 rfl ?_
          refine R_istore_n (L' := [_, _, _, _, _]) (pc' := 73) dX9_likesOf_72 (by decide) rfl rfl rfl ?_
          refine R_iinc (L' := [_, _, _, _, _]) (pc' := 76) dX9_likesOf_73 rfl (by decide) rfl rfl rfl ?_
          refine R_goto (tgt := 8) dX9_likesOf_76 (by decide) ?_
          exact WP_wk (wk_e (wk_e (wk_e (wk_e (wk_e wk_n))))) h
        · have h := h.2 hc12
          refine R_neD_if (tgt := 63) (pc' := 53) dX9_likesOf_50 (by decide) hc12 h.1 rfl ?_
          have h := h.2
          refine R_aload_n (pc' := 64) dX9_likesOf_63 rfl i108.1 rfl ?_
          refine Q_getfr (v := 117) (J := 18) (pc' := 67) rfl dX9_likesOf_64 l_RX9_65 i108 fd9_18.1 fd9_18.2.1 fd9_18.2.2.1 fd9_18.2.2.2 f108_18 rfl ?_
          refine R_iload (pc' := 69) dX9_likesOf_67 rfl rfl ?_
          have hs14 := h.1
          have h := h.2
          refine Q_iaload (N := 60) (pc' := 70) rfl dX9_likesOf_69 i117 (by decide) hs14 rfl ?_
          refine R_ineg (pc' := 71) dX9_likesOf_70 rfl ?_
          refine R_iadd (pc' := 72) dX9_likesOf_71 rfl ?_
          refine R_istore_n (L' := [_, _, _, _, _]) (pc' := 73) dX9_likesOf_72 (by decide) rfl rfl rfl ?_
          refine R_iinc (L' := [_, _, _, _, _]) (pc' := 76) dX9_likesOf_73 rfl (by decide) rfl rfl rfl ?_
          refine R_goto (tgt := 8) dX9_likesOf_76 (by decide) ?_
          exact WP_wk (wk_e (wk_e (wk_e (wk_e (wk_e wk_n))))) h
theorem e_X9_likesOf {K : SK} {d : Nat} {c : ct} {Q : ct → Int → Prop} (a1 : Int) (a2 : Int) (h : WI K (d + 1) mX9_likesOf 0 [(2, 108), (0, a1), (0, a2), (9, 0), (9, 0)] [] c Q) : CI K (d + 1) mX9_likesOf [(2, 108), (0, a1), (0, a2)] c Q := CM_ofS (by decide) (Nat.le_of_ble_eq_true rfl) _ rfl h
set_option maxRecDepth 100000 in
theorem s_X9_likes_0 {K : SK} {d : Nat} {c : ct} {Q : ct → Int → Prop} (a1 : Int) (a2 : Int) (h : CI K d mX9_isGuest [(2, 108), (0, a1)] c (fun c1 r2 => (r2 = 0 → Q c1 (-10001)) ∧ (¬ (r2 = 0) → ir r2 ∧ CI K d mX9_isGuest [(2, 108), (0, a2)] c1 (fun c4 r5 => (r5 = 0 → Q c4 (-10001)) ∧ (¬ (r5 = 0) → ir r5 ∧ (a1 = a2 → Q c4 (-10002)) ∧ (¬ (a1 = a2) → (ir a1 ∧ ir a2) ∧ CI K d mX9_likesOf [(2, 108), (0, a1), (0, a2)] c4 (fun c8 r9 => Q c8 r9))))))) : WI K (d + 1) mX9_likes 0 [(2, 108), (0, a1), (0, a2)] [] c Q := by
  refine R_aload_n (pc' := 1) dX9_likes_0 rfl i108.1 rfl ?_
  refine R_iload_n (pc' := 2) dX9_likes_1 rfl rfl ?_
  refine Q_callVI (vs := [(0, a1)]) (st := []) (pc' := 5) dX9_likes_2 l_RX9_260 i108 (by decide) rfl rfl (Nat.le_of_ble_eq_true rfl) rfl (Nat.zero_le _) (Nat.zero_le _) rfl ?_
  refine CI.mono h (fun c1 r2 h => ?_)
  by_cases hc3 : r2 = 0
  · have h := h.1 hc3
    refine R_eqS_if (tgt := 16) (pc' := 8) dX9_likes_5 (by decide) hc3 rfl ?_
    refine R_sipush (pc' := 19) dX9_likes_16 (by decide) rfl ?_
    exact Q_iret dX9_likes_19 rfl h
  · have h := h.2 hc3
    refine R_eqD_if (tgt := 16) (pc' := 8) dX9_likes_5 (by decide) hc3 h.1 rfl ?_
    have h := h.2
    refine R_aload_n (pc' := 9) dX9_likes_8 rfl i108.1 rfl ?_
    refine R_iload_n (pc' := 10) dX9_likes_9 rfl rfl ?_
    refine Q_callVI (vs := [(0, a2)]) (st := []) (pc' := 13) dX9_likes_10 l_RX9_260 i108 (by decide) rfl rfl (Nat.le_of_ble_eq_true rfl) rfl (Nat.zero_le _) (Nat.zero_le _) rfl ?_
    refine CI.mono h (fun c4 r5 h => ?_)
    by_cases hc6 : r5 = 0
    · have h := h.1 hc6
      refine R_neS_if (tgt := 20) (pc' := 16) dX9_likes_13 (by decide) hc6 rfl ?_
      refine R_sipush (pc' := 19) dX9_likes_16 (by decide) rfl ?_
      exact Q_iret dX9_likes_19 rfl h
    · have h := h.2 hc6
      refine R_neD_if (tgt := 20) (pc' := 16) dX9_likes_13 (by decide) hc6 h.1 rfl ?_
      have h := h.2
      refine R_iload_n (pc' := 21) dX9_likes_20 rfl rfl ?_
      refine R_iload_n (pc' := 22) dX9_likes_21 rfl rfl ?_
      by_cases hc7 : a1 = a2
      · have h := h.1 hc7
        refine R_neS_ic (tgt := 31) (pc' := 25) dX9_likes_22 (by decide) hc7 rfl ?_
        refine R_sipush (pc' := 28) dX9_likes_25 (by decide) rfl ?_
        refine R_goto (tgt := 37) dX9_likes_28 (by decide) ?_
        exact Q_iret dX9_likes_37 rfl h
      · have h := h.2 hc7
        refine R_neD_ic (tgt := 31) (pc' := 25) dX9_likes_22 (by decide) hc7 h.1 rfl ?_
        have h := h.2
        refine R_aload_n (pc' := 32) dX9_likes_31 rfl i108.1 rfl ?_
        refine R_iload_n (pc' := 33) dX9_likes_32 rfl rfl ?_
        refine R_iload_n (pc' := 34) dX9_likes_33 rfl rfl ?_
        refine Q_callVI (vs := [(0, a1), (0, a2)]) (st := []) (pc' := 37) dX9_likes_34 l_RX9_342 i108 (by decide) rfl rfl (Nat.le_of_ble_eq_true rfl) rfl (Nat.zero_le _) (Nat.zero_le _) rfl ?_
        refine CI.mono h (fun c8 r9 h => ?_)
        exact Q_iret dX9_likes_37 rfl h
theorem e_X9_likes {K : SK} {d : Nat} {c : ct} {Q : ct → Int → Prop} (a1 : Int) (a2 : Int) (h : WI K (d + 1) mX9_likes 0 [(2, 108), (0, a1), (0, a2)] [] c Q) : CI K (d + 1) mX9_likes [(2, 108), (0, a1), (0, a2)] c Q := CM_ofS (by decide) (Nat.le_of_ble_eq_true rfl) _ rfl h
set_option maxRecDepth 100000 in
theorem s_X9_layLikes_0 {K : SK} {d : Nat} {c : ct} {Q : ct → Prop}  (h : WV K (d + 1) mX9_layLikes 2 [(2, 108), (0, 0), (9, 0)] [] c Q) : WV K (d + 1) mX9_layLikes 0 [(2, 108), (9, 0), (9, 0)] [] c Q := by
  refine R_iconst (pc' := 1) dX9_layLikes_0 rfl ?_
  refine R_istore_n (L' := [_, _, _]) (pc' := 2) dX9_layLikes_1 (by decide) rfl rfl rfl ?_
  exact WP_wk (wk_e (wk_e (wk_u wk_n))) h
set_option maxRecDepth 100000 in
theorem s_X9_layLikes_2 {K : SK} {d : Nat} {c : ct} {Q : ct → Prop} (a1 : Int) (h : (ir a1 ∧ ir (c 108 0)) ∧ ((c 108 0) ≤ a1 → Q c) ∧ (¬ ((c 108 0) ≤ a1) → WV K (d + 1) mX9_layLikes 12 [(2, 108), (0, a1), (0, 0)] [] c Q)) : WV K (d + 1) mX9_layLikes 2 [(2, 108), (0, a1), (9, 0)] [] c Q := by
  refine R_iload_n (pc' := 3) dX9_layLikes_2 rfl rfl ?_
  refine R_aload_n (pc' := 4) dX9_layLikes_3 rfl i108.1 rfl ?_
  refine Q_getfi (J := 0) (pc' := 7) rfl dX9_layLikes_4 l_RX9_7 i108 fd9_0.1 fd9_0.2.1 fd9_0.2.2.1 rfl ?_
  have hs2 := h.1
  have h := h.2
  refine R_icmp_ge (tgt := 58) (pc' := 10) dX9_layLikes_7 (by decide) hs2.1 hs2.2 rfl (fun hc1 => ?_) (fun hc1 => ?_)
  · have h := h.1 hc1
    exact Q_ret dX9_layLikes_58 rfl h
  · have h := h.2 hc1
    refine R_iconst (pc' := 11) dX9_layLikes_10 rfl ?_
    refine R_istore_n (L' := [_, _, _]) (pc' := 12) dX9_layLikes_11 (by decide) rfl rfl rfl ?_
    exact WP_wk (wk_e (wk_e (wk_e wk_n))) h
set_option maxRecDepth 100000 in
theorem s_X9_layLikes_12 {K : SK} {d : Nat} {c : ct} {Q : ct → Prop} (a1 : Int) (a2 : Int) (h : (ir a2 ∧ ir (c 108 0)) ∧ ((c 108 0) ≤ a2 → WV K (d + 1) mX9_layLikes 2 [(2, 108), (0, (a1 + 1)), (9, 0)] [] c Q) ∧ (¬ ((c 108 0) ≤ a2) → (a1 = a2 → ((0 ≤ ((6 * a1) + a2) ∧ ((6 * a1) + a2) < 36)) ∧ ∀ c4 : ct, c4 = up2 c 124 ((6 * a1) + a2) 0 → WV K (d + 1) mX9_layLikes 12 [(2, 108), (0, a1), (0, (a2 + 1))] [] c4 Q) ∧ (¬ (a1 = a2) → (ir a1 ∧ ir a2) ∧ CI K d mX9_likesOf [(2, 108), (0, a1), (0, a2)] c (fun c6 r7 => ((0 ≤ ((6 * a1) + a2) ∧ ((6 * a1) + a2) < 36)) ∧ ∀ c8 : ct, c8 = up2 c6 124 ((6 * a1) + a2) r7 → WV K (d + 1) mX9_layLikes 12 [(2, 108), (0, a1), (0, (a2 + 1))] [] c8 Q)))) : WV K (d + 1) mX9_layLikes 12 [(2, 108), (0, a1), (0, a2)] [] c Q := by
  refine R_iload_n (pc' := 13) dX9_layLikes_12 rfl rfl ?_
  refine R_aload_n (pc' := 14) dX9_layLikes_13 rfl i108.1 rfl ?_
  refine Q_getfi (J := 0) (pc' := 17) rfl dX9_layLikes_14 l_RX9_7 i108 fd9_0.1 fd9_0.2.1 fd9_0.2.2.1 rfl ?_
  have hs2 := h.1
  have h := h.2
  refine R_icmp_ge (tgt := 52) (pc' := 20) dX9_layLikes_17 (by decide) hs2.1 hs2.2 rfl (fun hc1 => ?_) (fun hc1 => ?_)
  · have h := h.1 hc1
    refine R_iinc (L' := [_, _, _]) (pc' := 55) dX9_layLikes_52 rfl (by decide) rfl rfl rfl ?_
    refine R_goto (tgt := 2) dX9_layLikes_55 (by decide) ?_
    exact WP_wk (wk_e (wk_e (wk_u wk_n))) h
  · have h := h.2 hc1
    refine R_aload_n (pc' := 21) dX9_layLikes_20 rfl i108.1 rfl ?_
    refine Q_getfr (v := 124) (J := 28) (pc' := 24) rfl dX9_layLikes_21 l_RX9_96 i108 fd9_28.1 fd9_28.2.1 fd9_28.2.2.1 fd9_28.2.2.2 f108_28 rfl ?_
    refine R_bipush (pc' := 26) dX9_layLikes_24 (by decide) rfl ?_
    refine R_iload_n (pc' := 27) dX9_layLikes_26 rfl rfl ?_
    refine R_imul (pc' := 28) dX9_layLikes_27 rfl ?_
    refine R_iload_n (pc' := 29) dX9_layLikes_28 rfl rfl ?_
    refine R_iadd (pc' := 30) dX9_layLikes_29 rfl ?_
    refine R_iload_n (pc' := 31) dX9_layLikes_30 rfl rfl ?_
    refine R_iload_n (pc' := 32) dX9_layLikes_31 rfl rfl ?_
    by_cases hc3 : a1 = a2
    · have h := h.1 hc3
      refine R_neS_ic (tgt := 39) (pc' := 35) dX9_layLikes_32 (by decide) hc3 rfl ?_
      refine R_iconst (pc' := 36) dX9_layLikes_35 rfl ?_
      refine R_goto (tgt := 45) dX9_layLikes_36 (by decide) ?_
      have hs5 := h.1
      have h := h.2
      refine Q_iastore (N := 36) (pc' := 46) rfl dX9_layLikes_45 i124 (by decide) hs5  rfl (fun c4 hc4 => ?_)
      have h := h c4 hc4
      refine R_iinc (L' := [_, _, _]) (pc' := 49) dX9_layLikes_46 rfl (by decide) rfl rfl rfl ?_
      refine R_goto (tgt := 12) dX9_layLikes_49 (by decide) ?_
      exact WP_wk (wk_e (wk_e (wk_e wk_n))) h
    · have h := h.2 hc3
      refine R_neD_ic (tgt := 39) (pc' := 35) dX9_layLikes_32 (by decide) hc3 h.1 rfl ?_
      have h := h.2
      refine R_aload_n (pc' := 40) dX9_layLikes_39 rfl i108.1 rfl ?_
      refine R_iload_n (pc' := 41) dX9_layLikes_40 rfl rfl ?_
      refine R_iload_n (pc' := 42) dX9_layLikes_41 rfl rfl ?_
      refine Q_callVI (vs := [(0, a1), (0, a2)]) (st := [(0, ((6 * a1) + a2)), (2, 124)]) (pc' := 45) dX9_layLikes_42 l_RX9_342 i108 (by decide) rfl rfl (Nat.le_of_ble_eq_true rfl) rfl (Nat.zero_le _) (Nat.zero_le _) rfl ?_
      refine CI.mono h (fun c6 r7 h => ?_)
      have hs9 := h.1
      have h := h.2
      refine Q_iastore (N := 36) (pc' := 46) rfl dX9_layLikes_45 i124 (by decide) hs9  rfl (fun c8 hc8 => ?_)
      have h := h c8 hc8
      refine R_iinc (L' := [_, _, _]) (pc' := 49) dX9_layLikes_46 rfl (by decide) rfl rfl rfl ?_
      refine R_goto (tgt := 12) dX9_layLikes_49 (by decide) ?_
      exact WP_wk (wk_e (wk_e (wk_e wk_n))) h
theorem e_X9_layLikes {K : SK} {d : Nat} {c : ct} {Q : ct → Prop}  (h : WV K (d + 1) mX9_layLikes 0 [(2, 108), (9, 0), (9, 0)] [] c Q) : CV K (d + 1) mX9_layLikes [(2, 108)] c Q := CM_ofS (by decide) (Nat.le_of_ble_eq_true rfl) _ rfl h
set_option maxRecDepth 100000 in
theorem s_X9_isBeside_0 {K : SK} {d : Nat} {c : ct} {Q : ct → Int → Prop} (a1 : Int) (a2 : Int) (h : (ir (a1 + 1)) ∧ ((Int.tmod (a1 + 1) 6) = a2 → Q c 1) ∧ (¬ ((Int.tmod (a1 + 1) 6) = a2) → (ir (Int.tmod (a1 + 1) 6) ∧ ir a2) ∧ (ir (a2 + 1)) ∧ ((Int.tmod (a2 + 1) 6) = a1 → Q c 1) ∧ (¬ ((Int.tmod (a2 + 1) 6) = a1) → (ir (Int.tmod (a2 + 1) 6) ∧ ir a1) ∧ Q c 0))) : WI K (d + 1) mX9_isBeside 0 [(2, 108), (0, a1), (0, a2)] [] c Q := by
  refine R_iload_n (pc' := 1) dX9_isBeside_0 rfl rfl ?_
  refine R_iconst (pc' := 2) dX9_isBeside_1 rfl ?_
  refine R_iadd (pc' := 3) dX9_isBeside_2 rfl ?_
  refine R_bipush (pc' := 5) dX9_isBeside_3 (by decide) rfl ?_
  have hs1 := h.1
  have h := h.2
  refine R_irem (pc' := 6) dX9_isBeside_5 (by decide) hs1 (ir_l (by decide) (by decide)) rfl ?_
  refine R_iload_n (pc' := 7) dX9_isBeside_6 rfl rfl ?_
  by_cases hc2 : (Int.tmod (a1 + 1) 6) = a2
  · have h := h.1 hc2
    refine R_eqS_ic (tgt := 20) (pc' := 10) dX9_isBeside_7 (by decide) hc2 rfl ?_
    refine R_iconst (pc' := 21) dX9_isBeside_20 rfl ?_
    refine R_goto (tgt := 25) dX9_isBeside_21 (by decide) ?_
    exact Q_zret dX9_isBeside_25 rfl (Or.inr rfl) h
  · have h := h.2 hc2
    refine R_eqD_ic (tgt := 20) (pc' := 10) dX9_isBeside_7 (by decide) hc2 h.1 rfl ?_
    have h := h.2
    refine R_iload_n (pc' := 11) dX9_isBeside_10 rfl rfl ?_
    refine R_iconst (pc' := 12) dX9_isBeside_11 rfl ?_
    refine R_iadd (pc' := 13) dX9_isBeside_12 rfl ?_
    refine R_bipush (pc' := 15) dX9_isBeside_13 (by decide) rfl ?_
    have hs3 := h.1
    have h := h.2
    refine R_irem (pc' := 16) dX9_isBeside_15 (by decide) hs3 (ir_l (by decide) (by decide)) rfl ?_
    refine R_iload_n (pc' := 17) dX9_isBeside_16 rfl rfl ?_
    by_cases hc4 : (Int.tmod (a2 + 1) 6) = a1
    · have h := h.1 hc4
      refine R_neS_ic (tgt := 24) (pc' := 20) dX9_isBeside_17 (by decide) hc4 rfl ?_
      refine R_iconst (pc' := 21) dX9_isBeside_20 rfl ?_
      refine R_goto (tgt := 25) dX9_isBeside_21 (by decide) ?_
      exact Q_zret dX9_isBeside_25 rfl (Or.inr rfl) h
    · have h := h.2 hc4
      refine R_neD_ic (tgt := 24) (pc' := 20) dX9_isBeside_17 (by decide) hc4 h.1 rfl ?_
      have h := h.2
      refine R_iconst (pc' := 25) dX9_isBeside_24 rfl ?_
      exact Q_zret dX9_isBeside_25 rfl (Or.inl rfl) h
theorem e_X9_isBeside {K : SK} {d : Nat} {c : ct} {Q : ct → Int → Prop} (a1 : Int) (a2 : Int) (h : WI K (d + 1) mX9_isBeside 0 [(2, 108), (0, a1), (0, a2)] [] c Q) : CI K (d + 1) mX9_isBeside [(2, 108), (0, a1), (0, a2)] c Q := CM_ofS (by decide) (Nat.le_of_ble_eq_true rfl) _ rfl h
set_option maxRecDepth 100000 in
theorem s_X9_isCompany_0 {K : SK} {d : Nat} {c : ct} {Q : ct → Int → Prop} (a1 : Int) (h : CI K d mX9_has [(2, 108), (0, (c 108 1)), (0, a1)] c (fun c1 r2 => (r2 = 0 → ((0 ≤ a1 ∧ a1 < 6)) ∧ ((c1 109 a1) = 4 → Q c1 0) ∧ (¬ ((c1 109 a1) = 4) → ir (c1 109 a1) ∧ Q c1 1)) ∧ (¬ (r2 = 0) → ir r2 ∧ Q c1 0))) : WI K (d + 1) mX9_isCompany 0 [(2, 108), (0, a1)] [] c Q := by
  refine R_aload_n (pc' := 1) dX9_isCompany_0 rfl i108.1 rfl ?_
  refine R_aload_n (pc' := 2) dX9_isCompany_1 rfl i108.1 rfl ?_
  refine Q_getfi (J := 1) (pc' := 5) rfl dX9_isCompany_2 l_RX9_13 i108 fd9_1.1 fd9_1.2.1 fd9_1.2.2.1 rfl ?_
  refine R_iload_n (pc' := 6) dX9_isCompany_5 rfl rfl ?_
  refine Q_callVI (vs := [(0, (c 108 1)), (0, a1)]) (st := []) (pc' := 9) dX9_isCompany_6 l_RX9_248 i108 (by decide) rfl rfl (Nat.le_of_ble_eq_true rfl) rfl (Nat.zero_le _) (Nat.zero_le _) rfl ?_
  refine CI.mono h (fun c1 r2 h => ?_)
  by_cases hc3 : r2 = 0
  · have h := h.1 hc3
    refine R_neS_if (tgt := 26) (pc' := 12) dX9_isCompany_9 (by decide) hc3 rfl ?_
    refine R_aload_n (pc' := 13) dX9_isCompany_12 rfl i108.1 rfl ?_
    refine Q_getfr (v := 109) (J := 5) (pc' := 16) rfl dX9_isCompany_13 l_RX9_25 i108 fd9_5.1 fd9_5.2.1 fd9_5.2.2.1 fd9_5.2.2.2 f108_5 rfl ?_
    refine R_iload_n (pc' := 17) dX9_isCompany_16 rfl rfl ?_
    have hs4 := h.1
    have h := h.2
    refine Q_iaload (N := 6) (pc' := 18) rfl dX9_isCompany_17 i109 (by decide) hs4 rfl ?_
    refine R_iconst (pc' := 19) dX9_isCompany_18 rfl ?_
    by_cases hc5 : (c1 109 a1) = 4
    · have h := h.1 hc5
      refine R_eqS_ic (tgt := 26) (pc' := 22) dX9_isCompany_19 (by decide) hc5 rfl ?_
      refine R_iconst (pc' := 27) dX9_isCompany_26 rfl ?_
      exact Q_zret dX9_isCompany_27 rfl (Or.inl rfl) h
    · have h := h.2 hc5
      refine R_eqD_ic (tgt := 26) (pc' := 22) dX9_isCompany_19 (by decide) hc5 ⟨h.1, ir_l (by decide) (by decide)⟩ rfl ?_
      have h := h.2
      refine R_iconst (pc' := 23) dX9_isCompany_22 rfl ?_
      refine R_goto (tgt := 27) dX9_isCompany_23 (by decide) ?_
      exact Q_zret dX9_isCompany_27 rfl (Or.inr rfl) h
  · have h := h.2 hc3
    refine R_neD_if (tgt := 26) (pc' := 12) dX9_isCompany_9 (by decide) hc3 h.1 rfl ?_
    have h := h.2
    refine R_iconst (pc' := 27) dX9_isCompany_26 rfl ?_
    exact Q_zret dX9_isCompany_27 rfl (Or.inl rfl) h
theorem e_X9_isCompany {K : SK} {d : Nat} {c : ct} {Q : ct → Int → Prop} (a1 : Int) (h : WI K (d + 1) mX9_isCompany 0 [(2, 108), (0, a1)] [] c Q) : CI K (d + 1) mX9_isCompany [(2, 108), (0, a1)] c Q := CM_ofS (by decide) (Nat.le_of_ble_eq_true rfl) _ rfl h
set_option maxRecDepth 100000 in
theorem s_X9_beside_0 {K : SK} {d : Nat} {c : ct} {Q : ct → Int → Prop} (a1 : Int) (h : WI K (d + 1) mX9_beside 4 [(2, 108), (0, a1), (0, 0), (0, 0)] [] c Q) : WI K (d + 1) mX9_beside 0 [(2, 108), (0, a1), (9, 0), (9, 0)] [] c Q := by
  refine R_iconst (pc' := 1) dX9_beside_0 rfl ?_
  refine R_istore_n (L' := [_, _, _, _]) (pc' := 2) dX9_beside_1 (by decide) rfl rfl rfl ?_
  refine R_iconst (pc' := 3) dX9_beside_2 rfl ?_
  refine R_istore_n (L' := [_, _, _, _]) (pc' := 4) dX9_beside_3 (by decide) rfl rfl rfl ?_
  exact WP_wk (wk_e (wk_e (wk_e (wk_e wk_n)))) h
set_option maxRecDepth 100000 in
theorem s_X9_beside_4 {K : SK} {d : Nat} {c : ct} {Q : ct → Int → Prop} (a1 : Int) (a2 : Int) (a3 : Int) (h : (ir a3 ∧ ir (c 108 0)) ∧ ((c 108 0) ≤ a3 → Q c a2) ∧ (¬ ((c 108 0) ≤ a3) → (a3 = a1 → WI K (d + 1) mX9_beside 4 [(2, 108), (0, a1), (0, (bOr a2 0)), (0, (a3 + 1))] [] c Q) ∧ (¬ (a3 = a1) → (ir a3 ∧ ir a1) ∧ CI K d mX9_isCompany [(2, 108), (0, a3)] c (fun c4 r5 => (r5 = 0 → WI K (d + 1) mX9_beside 4 [(2, 108), (0, a1), (0, (bOr a2 0)), (0, (a3 + 1))] [] c4 Q) ∧ (¬ (r5 = 0) → ir r5 ∧ ((0 ≤ a3 ∧ a3 < 6)) ∧ ((0 ≤ a1 ∧ a1 < 6)) ∧ CI K d mX9_isBeside [(2, 108), (0, (c4 111 a3)), (0, (c4 111 a1))] c4 (fun c9 r10 => (r10 = 0 → WI K (d + 1) mX9_beside 4 [(2, 108), (0, a1), (0, (bOr a2 0)), (0, (a3 + 1))] [] c9 Q) ∧ (¬ (r10 = 0) → ir r10 ∧ WI K (d + 1) mX9_beside 4 [(2, 108), (0, a1), (0, (bOr a2 (bShl 1 a3))), (0, (a3 + 1))] [] c9 Q))))))) : WI K (d + 1) mX9_beside 4 [(2, 108), (0, a1), (0, a2), (0, a3)] [] c Q := by
  refine R_iload_n (pc' := 5) dX9_beside_4 rfl rfl ?_
  refine R_aload_n (pc' := 6) dX9_beside_5 rfl i108.1 rfl ?_
  refine Q_getfi (J := 0) (pc' := 9) rfl dX9_beside_6 l_RX9_7 i108 fd9_0.1 fd9_0.2.1 fd9_0.2.2.1 rfl ?_
  have hs2 := h.1
  have h := h.2
  refine R_icmp_ge (tgt := 60) (pc' := 12) dX9_beside_9 (by decide) hs2.1 hs2.2 rfl (fun hc1 => ?_) (fun hc1 => ?_)
  · have h := h.1 hc1
    refine R_iload_n (pc' := 61) dX9_beside_60 rfl rfl ?_
    exact Q_iret dX9_beside_61 rfl h
  · have h := h.2 hc1
    refine R_iload_n (pc' := 13) dX9_beside_12 rfl rfl ?_
    refine R_iload_n (pc' := 14) dX9_beside_13 rfl rfl ?_
    refine R_iload_n (pc' := 15) dX9_beside_14 rfl rfl ?_
    by_cases hc3 : a3 = a1
    · have h := h.1 hc3
      refine R_eqS_ic (tgt := 51) (pc' := 18) dX9_beside_15 (by decide) hc3 rfl ?_
      refine R_iconst (pc' := 52) dX9_beside_51 rfl ?_
      refine R_ior (pc' := 53) dX9_beside_52 rfl ?_
      refine R_istore_n (L' := [_, _, _, _]) (pc' := 54) dX9_beside_53 (by decide) rfl rfl rfl ?_
      refine R_iinc (L' := [_, _, _, _]) (pc' := 57) dX9_beside_54 rfl (by decide) rfl rfl rfl ?_
      refine R_goto (tgt := 4) dX9_beside_57 (by decide) ?_
      exact WP_wk (wk_e (wk_e (wk_e (wk_e wk_n)))) h
    · have h := h.2 hc3
      refine R_eqD_ic (tgt := 51) (pc' := 18) dX9_beside_15 (by decide) hc3 h.1 rfl ?_
      have h := h.2
      refine R_aload_n (pc' := 19) dX9_beside_18 rfl i108.1 rfl ?_
      refine R_iload_n (pc' := 20) dX9_beside_19 rfl rfl ?_
      refine Q_callVI (vs := [(0, a3)]) (st := [(0, a2)]) (pc' := 23) dX9_beside_20 l_RX9_346 i108 (by decide) rfl rfl (Nat.le_of_ble_eq_true rfl) rfl (Nat.zero_le _) (Nat.zero_le _) rfl ?_
      refine CI.mono h (fun c4 r5 h => ?_)
      by_cases hc6 : r5 = 0
      · have h := h.1 hc6
        refine R_eqS_if (tgt := 51) (pc' := 26) dX9_beside_23 (by decide) hc6 rfl ?_
        refine R_iconst (pc' := 52) dX9_beside_51 rfl ?_
        refine R_ior (pc' := 53) dX9_beside_52 rfl ?_
        refine R_istore_n (L' := [_, _, _, _]) (pc' := 54) dX9_beside_53 (by decide) rfl rfl rfl ?_
        refine R_iinc (L' := [_, _, _, _]) (pc' := 57) dX9_beside_54 rfl (by decide) rfl rfl rfl ?_
        refine R_goto (tgt := 4) dX9_beside_57 (by decide) ?_
        exact WP_wk (wk_e (wk_e (wk_e (wk_e wk_n)))) h
      · have h := h.2 hc6
        refine R_eqD_if (tgt := 51) (pc' := 26) dX9_beside_23 (by decide) hc6 h.1 rfl ?_
        have h := h.2
        refine R_aload_n (pc' := 27) dX9_beside_26 rfl i108.1 rfl ?_
        refine R_aload_n (pc' := 28) dX9_beside_27 rfl i108.1 rfl ?_
        refine Q_getfr (v := 111) (J := 7) (pc' := 31) rfl dX9_beside_28 l_RX9_32 i108 fd9_7.1 fd9_7.2.1 fd9_7.2.2.1 fd9_7.2.2.2 f108_7 rfl ?_
        refine R_iload_n (pc' := 32) dX9_beside_31 rfl rfl ?_
        have hs7 := h.1
        have h := h.2
        refine Q_iaload (N := 6) (pc' := 33) rfl dX9_beside_32 i111 (by decide) hs7 rfl ?_
        refine R_aload_n (pc' := 34) dX9_beside_33 rfl i108.1 rfl ?_
        refine Q_getfr (v := 111) (J := 7) (pc' := 37) rfl dX9_beside_34 l_RX9_32 i108 fd9_7.1 fd9_7.2.1 fd9_7.2.2.1 fd9_7.2.2.2 f108_7 rfl ?_
        refine R_iload_n (pc' := 38) dX9_beside_37 rfl rfl ?_
        have hs8 := h.1
        have h := h.2
        refine Q_iaload (N := 6) (pc' := 39) rfl dX9_beside_38 i111 (by decide) hs8 rfl ?_
        refine Q_callVI (vs := [(0, (c4 111 a3)), (0, (c4 111 a1))]) (st := [(0, a2)]) (pc' := 42) dX9_beside_39 l_RX9_349 i108 (by decide) rfl rfl (Nat.le_of_ble_eq_true rfl) rfl (Nat.zero_le _) (Nat.zero_le _) rfl ?_
        refine CI.mono h (fun c9 r10 h => ?_)
        by_cases hc11 : r10 = 0
        · have h := h.1 hc11
          refine R_eqS_if (tgt := 51) (pc' := 45) dX9_beside_42 (by decide) hc11 rfl ?_
          refine R_iconst (pc' := 52) dX9_beside_51 rfl ?_
          refine R_ior (pc' := 53) dX9_beside_52 rfl ?_
          refine R_istore_n (L' := [_, _, _, _]) (pc' := 54) dX9_beside_53 (by decide) rfl rfl rfl ?_
          refine R_iinc (L' := [_, _, _, _]) (pc' := 57) dX9_beside_54 rfl (by decide) rfl rfl rfl ?_
          refine R_goto (tgt := 4) dX9_beside_57 (by decide) ?_
          exact WP_wk (wk_e (wk_e (wk_e (wk_e wk_n)))) h
        · have h := h.2 hc11
          refine R_eqD_if (tgt := 51) (pc' := 45) dX9_beside_42 (by decide) hc11 h.1 rfl ?_
          have h := h.2
          refine R_iconst (pc' := 46) dX9_beside_45 rfl ?_
          refine R_iload_n (pc' := 47) dX9_beside_46 rfl rfl ?_
          refine R_ishl (pc' := 48) dX9_beside_47 rfl ?_
          refine R_goto (tgt := 52) dX9_beside_48 (by decide) ?_
          refine R_ior (pc' := 53) dX9_beside_52 rfl ?_
          refine R_istore_n (L' := [_, _, _, _]) (pc' := 54) dX9_beside_53 (by decide) rfl rfl rfl ?_
          refine R_iinc (L' := [_, _, _, _]) (pc' := 57) dX9_beside_54 rfl (by decide) rfl rfl rfl ?_
          refine R_goto (tgt := 4) dX9_beside_57 (by decide) ?_
          exact WP_wk (wk_e (wk_e (wk_e (wk_e wk_n)))) h
theorem e_X9_beside {K : SK} {d : Nat} {c : ct} {Q : ct → Int → Prop} (a1 : Int) (h : WI K (d + 1) mX9_beside 0 [(2, 108), (0, a1), (9, 0), (9, 0)] [] c Q) : CI K (d + 1) mX9_beside [(2, 108), (0, a1)] c Q := CM_ofS (by decide) (Nat.le_of_ble_eq_true rfl) _ rfl h
set_option maxRecDepth 100000 in
theorem s_X9_fondBy_0 {K : SK} {d : Nat} {c : ct} {Q : ct → Int → Prop} (a1 : Int) (h : CI K d mX9_has [(2, 108), (0, (c 108 1)), (0, a1)] c (fun c1 r2 => (r2 = 0 → CI K d mX9_beside [(2, 108), (0, a1)] c1 (fun c4 r5 => WI K (d + 1) mX9_fondBy 28 [(2, 108), (0, a1), (0, 0), (0, 0), (0, r5), (0, 0)] [] c4 Q)) ∧ (¬ (r2 = 0) → ir r2 ∧ Q c1 0))) : WI K (d + 1) mX9_fondBy 0 [(2, 108), (0, a1), (9, 0), (9, 0), (9, 0), (9, 0)] [] c Q := by
  refine R_aload_n (pc' := 1) dX9_fondBy_0 rfl i108.1 rfl ?_
  refine R_aload_n (pc' := 2) dX9_fondBy_1 rfl i108.1 rfl ?_
  refine Q_getfi (J := 1) (pc' := 5) rfl dX9_fondBy_2 l_RX9_13 i108 fd9_1.1 fd9_1.2.1 fd9_1.2.2.1 rfl ?_
  refine R_iload_n (pc' := 6) dX9_fondBy_5 rfl rfl ?_
  refine Q_callVI (vs := [(0, (c 108 1)), (0, a1)]) (st := []) (pc' := 9) dX9_fondBy_6 l_RX9_248 i108 (by decide) rfl rfl (Nat.le_of_ble_eq_true rfl) rfl (Nat.zero_le _) (Nat.zero_le _) rfl ?_
  refine CI.mono h (fun c1 r2 h => ?_)
  by_cases hc3 : r2 = 0
  · have h := h.1 hc3
    refine R_eqS_if (tgt := 14) (pc' := 12) dX9_fondBy_9 (by decide) hc3 rfl ?_
    refine R_iconst (pc' := 15) dX9_fondBy_14 rfl ?_
    refine R_istore_n (L' := [_, _, _, _, _, _]) (pc' := 16) dX9_fondBy_15 (by decide) rfl rfl rfl ?_
    refine R_iconst (pc' := 17) dX9_fondBy_16 rfl ?_
    refine R_istore_n (L' := [_, _, _, _, _, _]) (pc' := 18) dX9_fondBy_17 (by decide) rfl rfl rfl ?_
    refine R_aload_n (pc' := 19) dX9_fondBy_18 rfl i108.1 rfl ?_
    refine R_iload_n (pc' := 20) dX9_fondBy_19 rfl rfl ?_
    refine Q_callVI (vs := [(0, a1)]) (st := []) (pc' := 23) dX9_fondBy_20 l_RX9_352 i108 (by decide) rfl rfl (Nat.le_of_ble_eq_true rfl) rfl (Nat.zero_le _) (Nat.zero_le _) rfl ?_
    refine CI.mono h (fun c4 r5 h => ?_)
    refine R_istore (L' := [_, _, _, _, _, _]) (pc' := 25) dX9_fondBy_23 (by decide) rfl rfl rfl ?_
    refine R_iconst (pc' := 26) dX9_fondBy_25 rfl ?_
    refine R_istore (L' := [_, _, _, _, _, _]) (pc' := 28) dX9_fondBy_26 (by decide) rfl rfl rfl ?_
    exact WP_wk (wk_e (wk_e (wk_e (wk_e (wk_e (wk_e wk_n)))))) h
  · have h := h.2 hc3
    refine R_eqD_if (tgt := 14) (pc' := 12) dX9_fondBy_9 (by decide) hc3 h.1 rfl ?_
    have h := h.2
    refine R_iconst (pc' := 13) dX9_fondBy_12 rfl ?_
    exact Q_iret dX9_fondBy_13 rfl h
set_option maxRecDepth 100000 in
theorem s_X9_fondBy_28 {K : SK} {d : Nat} {c : ct} {Q : ct → Int → Prop} (a1 : Int) (a2 : Int) (a3 : Int) (a4 : Int) (a5 : Int) (h : (ir a5 ∧ ir (c 108 0)) ∧ ((c 108 0) ≤ a5 → ((0 ≤ a1 ∧ a1 < 6)) ∧ ((c 111 a1) = 0 → CI K d mX9_lastOf [(2, 108), (0, 3), (0, 6)] c (fun c5 r6 => ((0 ≤ a1 ∧ a1 < 6)) ∧ ir (c5 109 a1) ∧ ((c5 109 a1) = 1 → (ir a2) ∧ Q c5 (Int.tdiv a2 2)) ∧ ((c5 109 a1) = 2 → Q c5 (a2 + r6)) ∧ ((c5 109 a1) = 3 → ((0 ≤ a1 ∧ a1 < 6)) ∧ Q c5 (a2 - ((c5 110 a1) * a3))) ∧ ((c5 109 a1) = 4 → ((0 ≤ a1 ∧ a1 < 6)) ∧ Q c5 (c5 110 a1)) ∧ ((c5 109 a1) = 5 → (ir (c5 108 4)) ∧ ((Int.tmod (c5 108 4) 2) = 1 → Q c5 0) ∧ (¬ ((Int.tmod (c5 108 4) 2) = 1) → ir (Int.tmod (c5 108 4) 2) ∧ Q c5 (a2 + r6))) ∧ ((c5 109 a1) = 6 → ((0 ≤ a1 ∧ a1 < 6)) ∧ ((0 ≤ a1 ∧ a1 < 6)) ∧ (ir (c5 111 a1)) ∧ ((0 ≤ ((4 * a1) + (Int.tmod (c5 111 a1) 4)) ∧ ((4 * a1) + (Int.tmod (c5 111 a1) 4)) < 24)) ∧ Q c5 ((a2 - ((c5 110 a1) * a3)) + (c5 113 ((4 * a1) + (Int.tmod (c5 111 a1) 4))))) ∧ (((c5 109 a1) < 1 ∨ 6 < (c5 109 a1)) → Q c5 a2))) ∧ (¬ ((c 111 a1) = 0) → ir (c 111 a1) ∧ ((0 ≤ a1 ∧ a1 < 6)) ∧ ir (c 109 a1) ∧ ((c 109 a1) = 1 → (ir a2) ∧ Q c (Int.tdiv a2 2)) ∧ ((c 109 a1) = 2 → Q c a2) ∧ ((c 109 a1) = 3 → ((0 ≤ a1 ∧ a1 < 6)) ∧ Q c (a2 - ((c 110 a1) * a3))) ∧ ((c 109 a1) = 4 → ((0 ≤ a1 ∧ a1 < 6)) ∧ Q c (c 110 a1)) ∧ ((c 109 a1) = 5 → (ir (c 108 4)) ∧ ((Int.tmod (c 108 4) 2) = 1 → Q c 0) ∧ (¬ ((Int.tmod (c 108 4) 2) = 1) → ir (Int.tmod (c 108 4) 2) ∧ Q c a2)) ∧ ((c 109 a1) = 6 → ((0 ≤ a1 ∧ a1 < 6)) ∧ ((0 ≤ a1 ∧ a1 < 6)) ∧ (ir (c 111 a1)) ∧ ((0 ≤ ((4 * a1) + (Int.tmod (c 111 a1) 4)) ∧ ((4 * a1) + (Int.tmod (c 111 a1) 4)) < 24)) ∧ Q c ((a2 - ((c 110 a1) * a3)) + (c 113 ((4 * a1) + (Int.tmod (c 111 a1) 4))))) ∧ (((c 109 a1) < 1 ∨ 6 < (c 109 a1)) → Q c a2))) ∧ (¬ ((c 108 0) ≤ a5) → CI K d mX9_has [(2, 108), (0, a4), (0, a5)] c (fun c39 r40 => (r40 = 0 → WI K (d + 1) mX9_fondBy 28 [(2, 108), (0, a1), (0, a2), (0, a3), (0, a4), (0, (a5 + 1))] [] c39 Q) ∧ (¬ (r40 = 0) → ir r40 ∧ ((0 ≤ ((6 * a1) + a5) ∧ ((6 * a1) + a5) < 36)) ∧ ((0 ≤ a5 ∧ a5 < 6)) ∧ ((c39 109 a5) = 3 → WI K (d + 1) mX9_fondBy 28 [(2, 108), (0, a1), (0, (a2 + (c39 124 ((6 * a1) + a5)))), (0, (a3 + 1)), (0, a4), (0, (a5 + 1))] [] c39 Q) ∧ (¬ ((c39 109 a5) = 3) → ir (c39 109 a5) ∧ ((0 ≤ a5 ∧ a5 < 6)) ∧ ((c39 109 a5) = 6 → WI K (d + 1) mX9_fondBy 28 [(2, 108), (0, a1), (0, (a2 + (c39 124 ((6 * a1) + a5)))), (0, (a3 + 1)), (0, a4), (0, (a5 + 1))] [] c39 Q) ∧ (¬ ((c39 109 a5) = 6) → ir (c39 109 a5) ∧ WI K (d + 1) mX9_fondBy 28 [(2, 108), (0, a1), (0, (a2 + (c39 124 ((6 * a1) + a5)))), (0, (a3 + 0)), (0, a4), (0, (a5 + 1))] [] c39 Q)))))) : WI K (d + 1) mX9_fondBy 28 [(2, 108), (0, a1), (0, a2), (0, a3), (0, a4), (0, a5)] [] c Q := by
  refine R_iload (pc' := 30) dX9_fondBy_28 rfl rfl ?_
  refine R_aload_n (pc' := 31) dX9_fondBy_30 rfl i108.1 rfl ?_
  refine Q_getfi (J := 0) (pc' := 34) rfl dX9_fondBy_31 l_RX9_7 i108 fd9_0.1 fd9_0.2.1 fd9_0.2.2.1 rfl ?_
  have hs2 := h.1
  have h := h.2
  refine R_icmp_ge (tgt := 103) (pc' := 37) dX9_fondBy_34 (by decide) hs2.1 hs2.2 rfl (fun hc1 => ?_) (fun hc1 => ?_)
  · have h := h.1 hc1
    refine R_aload_n (pc' := 104) dX9_fondBy_103 rfl i108.1 rfl ?_
    refine Q_getfr (v := 111) (J := 7) (pc' := 107) rfl dX9_fondBy_104 l_RX9_32 i108 fd9_7.1 fd9_7.2.1 fd9_7.2.2.1 fd9_7.2.2.2 f108_7 rfl ?_
    refine R_iload_n (pc' := 108) dX9_fondBy_107 rfl rfl ?_
    have hs3 := h.1
    have h := h.2
    refine Q_iaload (N := 6) (pc' := 109) rfl dX9_fondBy_108 i111 (by decide) hs3 rfl ?_
    by_cases hc4 : (c 111 a1) = 0
    · have h := h.1 hc4
      refine R_neS_if (tgt := 124) (pc' := 112) dX9_fondBy_109 (by decide) hc4 rfl ?_
      refine R_iload_n (pc' := 113) dX9_fondBy_112 rfl rfl ?_
      refine R_aload_n (pc' := 114) dX9_fondBy_113 rfl i108.1 rfl ?_
      refine R_iconst (pc' := 115) dX9_fondBy_114 rfl ?_
      refine R_bipush (pc' := 117) dX9_fondBy_115 (by decide) rfl ?_
      refine Q_callVI (vs := [(0, 3), (0, 6)]) (st := [(0, a2)]) (pc' := 120) dX9_fondBy_117 l_RX9_355 i108 (by decide) rfl rfl (Nat.le_of_ble_eq_true rfl) rfl (Nat.zero_le _) (Nat.zero_le _) rfl ?_
      refine CI.mono h (fun c5 r6 h => ?_)
      refine R_iadd (pc' := 121) dX9_fondBy_120 rfl ?_
      refine R_goto (tgt := 125) dX9_fondBy_121 (by decide) ?_
      refine R_istore (L' := [_, _, _, _, _, _]) (pc' := 127) dX9_fondBy_125 (by decide) rfl rfl rfl ?_
      refine R_aload_n (pc' := 128) dX9_fondBy_127 rfl i108.1 rfl ?_
      refine Q_getfr (v := 109) (J := 5) (pc' := 131) rfl dX9_fondBy_128 l_RX9_25 i108 fd9_5.1 fd9_5.2.1 fd9_5.2.2.1 fd9_5.2.2.2 f108_5 rfl ?_
      refine R_iload_n (pc' := 132) dX9_fondBy_131 rfl rfl ?_
      have hs7 := h.1
      have h := h.2
      refine Q_iaload (N := 6) (pc' := 133) rfl dX9_fondBy_132 i109 (by decide) hs7 rfl ?_
      have hs0 := h.1
      have h := h.2
      rcases (show (c5 109 a1) = 1 ∨ (c5 109 a1) = 2 ∨ (c5 109 a1) = 3 ∨ (c5 109 a1) = 4 ∨ (c5 109 a1) = 5 ∨ (c5 109 a1) = 6 ∨ ((c5 109 a1) < 1 ∨ 6 < (c5 109 a1)) by omega) with hk | hk | hk | hk | hk | hk | hk
      · have h := h.1 hk
        refine R_tableAt (tgt := 172) 1 hk dX9_fondBy_133 (ir_l (by decide) (by decide)) (by decide) rfl (by decide) ?_
        refine R_iload_n (pc' := 173) dX9_fondBy_172 rfl rfl ?_
        refine R_iconst (pc' := 174) dX9_fondBy_173 rfl ?_
        have hs9 := h.1
        have h := h.2
        refine R_idiv (pc' := 175) dX9_fondBy_174 (by decide) hs9 (ir_l (by decide) (by decide)) rfl ?_
        exact Q_iret dX9_fondBy_175 rfl h
      · have h := h.2.1 hk
        refine R_tableAt (tgt := 176) 2 hk dX9_fondBy_133 (ir_l (by decide) (by decide)) (by decide) rfl (by decide) ?_
        refine R_iload (pc' := 178) dX9_fondBy_176 rfl rfl ?_
        exact Q_iret dX9_fondBy_178 rfl h
      · have h := h.2.2.1 hk
        refine R_tableAt (tgt := 179) 3 hk dX9_fondBy_133 (ir_l (by decide) (by decide)) (by decide) rfl (by decide) ?_
        refine R_iload_n (pc' := 180) dX9_fondBy_179 rfl rfl ?_
        refine R_aload_n (pc' := 181) dX9_fondBy_180 rfl i108.1 rfl ?_
        refine Q_getfr (v := 110) (J := 6) (pc' := 184) rfl dX9_fondBy_181 l_RX9_29 i108 fd9_6.1 fd9_6.2.1 fd9_6.2.2.1 fd9_6.2.2.2 f108_6 rfl ?_
        refine R_iload_n (pc' := 185) dX9_fondBy_184 rfl rfl ?_
        have hs12 := h.1
        have h := h.2
        refine Q_iaload (N := 6) (pc' := 186) rfl dX9_fondBy_185 i110 (by decide) hs12 rfl ?_
        refine R_iload_n (pc' := 187) dX9_fondBy_186 rfl rfl ?_
        refine R_imul (pc' := 188) dX9_fondBy_187 rfl ?_
        refine R_isub (pc' := 189) dX9_fondBy_188 rfl ?_
        exact Q_iret dX9_fondBy_189 rfl h
      · have h := h.2.2.2.1 hk
        refine R_tableAt (tgt := 190) 4 hk dX9_fondBy_133 (ir_l (by decide) (by decide)) (by decide) rfl (by decide) ?_
        refine R_aload_n (pc' := 191) dX9_fondBy_190 rfl i108.1 rfl ?_
        refine Q_getfr (v := 110) (J := 6) (pc' := 194) rfl dX9_fondBy_191 l_RX9_29 i108 fd9_6.1 fd9_6.2.1 fd9_6.2.2.1 fd9_6.2.2.2 f108_6 rfl ?_
        refine R_iload_n (pc' := 195) dX9_fondBy_194 rfl rfl ?_
        have hs14 := h.1
        have h := h.2
        refine Q_iaload (N := 6) (pc' := 196) rfl dX9_fondBy_195 i110 (by decide) hs14 rfl ?_
        exact Q_iret dX9_fondBy_196 rfl h
      · have h := h.2.2.2.2.1 hk
        refine R_tableAt (tgt := 197) 5 hk dX9_fondBy_133 (ir_l (by decide) (by decide)) (by decide) rfl (by decide) ?_
        refine R_aload_n (pc' := 198) dX9_fondBy_197 rfl i108.1 rfl ?_
        refine Q_getfi (J := 4) (pc' := 201) rfl dX9_fondBy_198 l_RX9_22 i108 fd9_4.1 fd9_4.2.1 fd9_4.2.2.1 rfl ?_
        refine R_iconst (pc' := 202) dX9_fondBy_201 rfl ?_
        have hs16 := h.1
        have h := h.2
        refine R_irem (pc' := 203) dX9_fondBy_202 (by decide) hs16 (ir_l (by decide) (by decide)) rfl ?_
        refine R_iconst (pc' := 204) dX9_fondBy_203 rfl ?_
        by_cases hc17 : (Int.tmod (c5 108 4) 2) = 1
        · have h := h.1 hc17
          refine R_neS_ic (tgt := 211) (pc' := 207) dX9_fondBy_204 (by decide) hc17 rfl ?_
          refine R_iconst (pc' := 208) dX9_fondBy_207 rfl ?_
          refine R_goto (tgt := 213) dX9_fondBy_208 (by decide) ?_
          exact Q_iret dX9_fondBy_213 rfl h
        · have h := h.2 hc17
          refine R_neD_ic (tgt := 211) (pc' := 207) dX9_fondBy_204 (by decide) hc17 ⟨h.1, ir_l (by decide) (by decide)⟩ rfl ?_
          have h := h.2
          refine R_iload (pc' := 213) dX9_fondBy_211 rfl rfl ?_
          exact Q_iret dX9_fondBy_213 rfl h
      · have h := h.2.2.2.2.2.1 hk
        refine R_tableAt (tgt := 214) 6 hk dX9_fondBy_133 (ir_l (by decide) (by decide)) (by decide) rfl (by decide) ?_
        refine R_iload_n (pc' := 215) dX9_fondBy_214 rfl rfl ?_
        refine R_aload_n (pc' := 216) dX9_fondBy_215 rfl i108.1 rfl ?_
        refine Q_getfr (v := 110) (J := 6) (pc' := 219) rfl dX9_fondBy_216 l_RX9_29 i108 fd9_6.1 fd9_6.2.1 fd9_6.2.2.1 fd9_6.2.2.2 f108_6 rfl ?_
        refine R_iload_n (pc' := 220) dX9_fondBy_219 rfl rfl ?_
        have hs19 := h.1
        have h := h.2
        refine Q_iaload (N := 6) (pc' := 221) rfl dX9_fondBy_220 i110 (by decide) hs19 rfl ?_
        refine R_iload_n (pc' := 222) dX9_fondBy_221 rfl rfl ?_
        refine R_imul (pc' := 223) dX9_fondBy_222 rfl ?_
        refine R_isub (pc' := 224) dX9_fondBy_223 rfl ?_
        refine R_aload_n (pc' := 225) dX9_fondBy_224 rfl i108.1 rfl ?_
        refine Q_getfr (v := 113) (J := 9) (pc' := 228) rfl dX9_fondBy_225 l_RX9_38 i108 fd9_9.1 fd9_9.2.1 fd9_9.2.2.1 fd9_9.2.2.2 f108_9 rfl ?_
        refine R_iconst (pc' := 229) dX9_fondBy_228 rfl ?_
        refine R_iload_n (pc' := 230) dX9_fondBy_229 rfl rfl ?_
        refine R_imul (pc' := 231) dX9_fondBy_230 rfl ?_
        refine R_aload_n (pc' := 232) dX9_fondBy_231 rfl i108.1 rfl ?_
        refine Q_getfr (v := 111) (J := 7) (pc' := 235) rfl dX9_fondBy_232 l_RX9_32 i108 fd9_7.1 fd9_7.2.1 fd9_7.2.2.1 fd9_7.2.2.2 f108_7 rfl ?_
        refine R_iload_n (pc' := 236) dX9_fondBy_235 rfl rfl ?_
        have hs20 := h.1
        have h := h.2
        refine Q_iaload (N := 6) (pc' := 237) rfl dX9_fondBy_236 i111 (by decide) hs20 rfl ?_
        refine R_iconst (pc' := 238) dX9_fondBy_237 rfl ?_
        have hs21 := h.1
        have h := h.2
        refine R_irem (pc' := 239) dX9_fondBy_238 (by decide) hs21 (ir_l (by decide) (by decide)) rfl ?_
        refine R_iadd (pc' := 240) dX9_fondBy_239 rfl ?_
        have hs22 := h.1
        have h := h.2
        refine Q_iaload (N := 24) (pc' := 241) rfl dX9_fondBy_240 i113 (by decide) hs22 rfl ?_
        refine R_iadd (pc' := 242) dX9_fondBy_241 rfl ?_
        exact Q_iret dX9_fondBy_242 rfl h
      · have h := h.2.2.2.2.2.2 hk
        refine R_tableOut (tgt := 243) dX9_fondBy_133 hs0 hk (by decide) ?_
        refine R_iload_n (pc' := 244) dX9_fondBy_243 rfl rfl ?_
        exact Q_iret dX9_fondBy_244 rfl h
    · have h := h.2 hc4
      refine R_neD_if (tgt := 124) (pc' := 112) dX9_fondBy_109 (by decide) hc4 h.1 rfl ?_
      have h := h.2
      refine R_iload_n (pc' := 125) dX9_fondBy_124 rfl rfl ?_
      refine R_istore (L' := [_, _, _, _, _, _]) (pc' := 127) dX9_fondBy_125 (by decide) rfl rfl rfl ?_
      refine R_aload_n (pc' := 128) dX9_fondBy_127 rfl i108.1 rfl ?_
      refine Q_getfr (v := 109) (J := 5) (pc' := 131) rfl dX9_fondBy_128 l_RX9_25 i108 fd9_5.1 fd9_5.2.1 fd9_5.2.2.1 fd9_5.2.2.2 f108_5 rfl ?_
      refine R_iload_n (pc' := 132) dX9_fondBy_131 rfl rfl ?_
      have hs23 := h.1
      have h := h.2
      refine Q_iaload (N := 6) (pc' := 133) rfl dX9_fondBy_132 i109 (by decide) hs23 rfl ?_
      have hs0 := h.1
      have h := h.2
      rcases (show (c 109 a1) = 1 ∨ (c 109 a1) = 2 ∨ (c 109 a1) = 3 ∨ (c 109 a1) = 4 ∨ (c 109 a1) = 5 ∨ (c 109 a1) = 6 ∨ ((c 109 a1) < 1 ∨ 6 < (c 109 a1)) by omega) with hk | hk | hk | hk | hk | hk | hk
      · have h := h.1 hk
        refine R_tableAt (tgt := 172) 1 hk dX9_fondBy_133 (ir_l (by decide) (by decide)) (by decide) rfl (by decide) ?_
        refine R_iload_n (pc' := 173) dX9_fondBy_172 rfl rfl ?_
        refine R_iconst (pc' := 174) dX9_fondBy_173 rfl ?_
        have hs25 := h.1
        have h := h.2
        refine R_idiv (pc' := 175) dX9_fondBy_174 (by decide) hs25 (ir_l (by decide) (by decide)) rfl ?_
        exact Q_iret dX9_fondBy_175 rfl h
      · have h := h.2.1 hk
        refine R_tableAt (tgt := 176) 2 hk dX9_fondBy_133 (ir_l (by decide) (by decide)) (by decide) rfl (by decide) ?_
        refine R_iload (pc' := 178) dX9_fondBy_176 rfl rfl ?_
        exact Q_iret dX9_fondBy_178 rfl h
      · have h := h.2.2.1 hk
        refine R_tableAt (tgt := 179) 3 hk dX9_fondBy_133 (ir_l (by decide) (by decide)) (by decide) rfl (by decide) ?_
        refine R_iload_n (pc' := 180) dX9_fondBy_179 rfl rfl ?_
        refine R_aload_n (pc' := 181) dX9_fondBy_180 rfl i108.1 rfl ?_
        refine Q_getfr (v := 110) (J := 6) (pc' := 184) rfl dX9_fondBy_181 l_RX9_29 i108 fd9_6.1 fd9_6.2.1 fd9_6.2.2.1 fd9_6.2.2.2 f108_6 rfl ?_
        refine R_iload_n (pc' := 185) dX9_fondBy_184 rfl rfl ?_
        have hs28 := h.1
        have h := h.2
        refine Q_iaload (N := 6) (pc' := 186) rfl dX9_fondBy_185 i110 (by decide) hs28 rfl ?_
        refine R_iload_n (pc' := 187) dX9_fondBy_186 rfl rfl ?_
        refine R_imul (pc' := 188) dX9_fondBy_187 rfl ?_
        refine R_isub (pc' := 189) dX9_fondBy_188 rfl ?_
        exact Q_iret dX9_fondBy_189 rfl h
      · have h := h.2.2.2.1 hk
        refine R_tableAt (tgt := 190) 4 hk dX9_fondBy_133 (ir_l (by decide) (by decide)) (by decide) rfl (by decide) ?_
        refine R_aload_n (pc' := 191) dX9_fondBy_190 rfl i108.1 rfl ?_
        refine Q_getfr (v := 110) (J := 6) (pc' := 194) rfl dX9_fondBy_191 l_RX9_29 i108 fd9_6.1 fd9_6.2.1 fd9_6.2.2.1 fd9_6.2.2.2 f108_6 rfl ?_
        refine R_iload_n (pc' := 195) dX9_fondBy_194 rfl rfl ?_
        have hs30 := h.1
        have h := h.2
        refine Q_iaload (N := 6) (pc' := 196) rfl dX9_fondBy_195 i110 (by decide) hs30 rfl ?_
        exact Q_iret dX9_fondBy_196 rfl h
      · have h := h.2.2.2.2.1 hk
        refine R_tableAt (tgt := 197) 5 hk dX9_fondBy_133 (ir_l (by decide) (by decide)) (by decide) rfl (by decide) ?_
        refine R_aload_n (pc' := 198) dX9_fondBy_197 rfl i108.1 rfl ?_
        refine Q_getfi (J := 4) (pc' := 201) rfl dX9_fondBy_198 l_RX9_22 i108 fd9_4.1 fd9_4.2.1 fd9_4.2.2.1 rfl ?_
        refine R_iconst (pc' := 202) dX9_fondBy_201 rfl ?_
        have hs32 := h.1
        have h := h.2
        refine R_irem (pc' := 203) dX9_fondBy_202 (by decide) hs32 (ir_l (by decide) (by decide)) rfl ?_
        refine R_iconst (pc' := 204) dX9_fondBy_203 rfl ?_
        by_cases hc33 : (Int.tmod (c 108 4) 2) = 1
        · have h := h.1 hc33
          refine R_neS_ic (tgt := 211) (pc' := 207) dX9_fondBy_204 (by decide) hc33 rfl ?_
          refine R_iconst (pc' := 208) dX9_fondBy_207 rfl ?_
          refine R_goto (tgt := 213) dX9_fondBy_208 (by decide) ?_
          exact Q_iret dX9_fondBy_213 rfl h
        · have h := h.2 hc33
          refine R_neD_ic (tgt := 211) (pc' := 207) dX9_fondBy_204 (by decide) hc33 ⟨h.1, ir_l (by decide) (by decide)⟩ rfl ?_
          have h := h.2
          refine R_iload (pc' := 213) dX9_fondBy_211 rfl rfl ?_
          exact Q_iret dX9_fondBy_213 rfl h
      · have h := h.2.2.2.2.2.1 hk
        refine R_tableAt (tgt := 214) 6 hk dX9_fondBy_133 (ir_l (by decide) (by decide)) (by decide) rfl (by decide) ?_
        refine R_iload_n (pc' := 215) dX9_fondBy_214 rfl rfl ?_
        refine R_aload_n (pc' := 216) dX9_fondBy_215 rfl i108.1 rfl ?_
        refine Q_getfr (v := 110) (J := 6) (pc' := 219) rfl dX9_fondBy_216 l_RX9_29 i108 fd9_6.1 fd9_6.2.1 fd9_6.2.2.1 fd9_6.2.2.2 f108_6 rfl ?_
        refine R_iload_n (pc' := 220) dX9_fondBy_219 rfl rfl ?_
        have hs35 := h.1
        have h := h.2
        refine Q_iaload (N := 6) (pc' := 221) rfl dX9_fondBy_220 i110 (by decide) hs35 rfl ?_
        refine R_iload_n (pc' := 222) dX9_fondBy_221 rfl rfl ?_
        refine R_imul (pc' := 223) dX9_fondBy_222 rfl ?_
        refine R_isub (pc' := 224) dX9_fondBy_223 rfl ?_
        refine R_aload_n (pc' := 225) dX9_fondBy_224 rfl i108.1 rfl ?_
        refine Q_getfr (v := 113) (J := 9) (pc' := 228) rfl dX9_fondBy_225 l_RX9_38 i108 fd9_9.1 fd9_9.2.1 fd9_9.2.2.1 fd9_9.2.2.2 f108_9 rfl ?_
        refine R_iconst (pc' := 229) dX9_fondBy_228 rfl ?_
        refine R_iload_n (pc' := 230) dX9_fondBy_229 rfl rfl ?_
        refine R_imul (pc' := 231) dX9_fondBy_230 rfl ?_
        refine R_aload_n (pc' := 232) dX9_fondBy_231 rfl i108.1 rfl ?_
        refine Q_getfr (v := 111) (J := 7) (pc' := 235) rfl dX9_fondBy_232 l_RX9_32 i108 fd9_7.1 fd9_7.2.1 fd9_7.2.2.1 fd9_7.2.2.2 f108_7 rfl ?_
        refine R_iload_n (pc' := 236) dX9_fondBy_235 rfl rfl ?_
        have hs36 := h.1
        have h := h.2
        refine Q_iaload (N := 6) (pc' := 237) rfl dX9_fondBy_236 i111 (by decide) hs36 rfl ?_
        refine R_iconst (pc' := 238) dX9_fondBy_237 rfl ?_
        have hs37 := h.1
        have h := h.2
        refine R_irem (pc' := 239) dX9_fondBy_238 (by decide) hs37 (ir_l (by decide) (by decide)) rfl ?_
        refine R_iadd (pc' := 240) dX9_fondBy_239 rfl ?_
        have hs38 := h.1
        have h := h.2
        refine Q_iaload (N := 24) (pc' := 241) rfl dX9_fondBy_240 i113 (by decide) hs38 rfl ?_
        refine R_iadd (pc' := 242) dX9_fondBy_241 rfl ?_
        exact Q_iret dX9_fondBy_242 rfl h
      · have h := h.2.2.2.2.2.2 hk
        refine R_tableOut (tgt := 243) dX9_fondBy_133 hs0 hk (by decide) ?_
        refine R_iload_n (pc' := 244) dX9_fondBy_243 rfl rfl ?_
        exact Q_iret dX9_fondBy_244 rfl h
  · have h := h.2 hc1
    refine R_aload_n (pc' := 38) dX9_fondBy_37 rfl i108.1 rfl ?_
    refine R_iload (pc' := 40) dX9_fondBy_38 rfl rfl ?_
    refine R_iload (pc' := 42) dX9_fondBy_40 rfl rfl ?_
    refine Q_callVI (vs := [(0, a4), (0, a5)]) (st := []) (pc' := 45) dX9_fondBy_42 l_RX9_248 i108 (by decide) rfl rfl (Nat.le_of_ble_eq_true rfl) rfl (Nat.zero_le _) (Nat.zero_le _) rfl ?_
    refine CI.mono h (fun c39 r40 h => ?_)
    by_cases hc41 : r40 = 0
    · have h := h.1 hc41
      refine R_neS_if (tgt := 51) (pc' := 48) dX9_fondBy_45 (by decide) hc41 rfl ?_
      refine R_goto (tgt := 97) dX9_fondBy_48 (by decide) ?_
      refine R_iinc (L' := [_, _, _, _, _, _]) (pc' := 100) dX9_fondBy_97 rfl (by decide) rfl rfl rfl ?_
      refine R_goto (tgt := 28) dX9_fondBy_100 (by decide) ?_
      exact WP_wk (wk_e (wk_e (wk_e (wk_e (wk_e (wk_e wk_n)))))) h
    · have h := h.2 hc41
      refine R_neD_if (tgt := 51) (pc' := 48) dX9_fondBy_45 (by decide) hc41 h.1 rfl ?_
      have h := h.2
      refine R_iload_n (pc' := 52) dX9_fondBy_51 rfl rfl ?_
      refine R_aload_n (pc' := 53) dX9_fondBy_52 rfl i108.1 rfl ?_
      refine Q_getfr (v := 124) (J := 28) (pc' := 56) rfl dX9_fondBy_53 l_RX9_96 i108 fd9_28.1 fd9_28.2.1 fd9_28.2.2.1 fd9_28.2.2.2 f108_28 rfl ?_
      refine R_bipush (pc' := 58) dX9_fondBy_56 (by decide) rfl ?_
      refine R_iload_n (pc' := 59) dX9_fondBy_58 rfl rfl ?_
      refine R_imul (pc' := 60) dX9_fondBy_59 rfl ?_
      refine R_iload (pc' := 62) dX9_fondBy_60 rfl rfl ?_
      refine R_iadd (pc' := 63) dX9_fondBy_62 rfl ?_
      have hs42 := h.1
      have h := h.2
      refine Q_iaload (N := 36) (pc' := 64) rfl dX9_fondBy_63 i124 (by decide) hs42 rfl ?_
      refine R_iadd (pc' := 65) dX9_fondBy_64 rfl ?_
      refine R_istore_n (L' := [_, _, _, _, _, _]) (pc' := 66) dX9_fondBy_65 (by decide) rfl rfl rfl ?_
      refine R_iload_n (pc' := 67) dX9_fondBy_66 rfl rfl ?_
      refine R_aload_n (pc' := 68) dX9_fondBy_67 rfl i108.1 rfl ?_
      refine Q_getfr (v := 109) (J := 5) (pc' := 71) rfl dX9_fondBy_68 l_RX9_25 i108 fd9_5.1 fd9_5.2.1 fd9_5.2.2.1 fd9_5.2.2.2 f108_5 rfl ?_
      refine R_iload (pc' := 73) dX9_fondBy_71 rfl rfl ?_
      have hs43 := h.1
      have h := h.2
      refine Q_iaload (N := 6) (pc' := 74) rfl dX9_fondBy_73 i109 (by decide) hs43 rfl ?_
      refine R_iconst (pc' := 75) dX9_fondBy_74 rfl ?_
      by_cases hc44 : (c39 109 a5) = 3
      · have h := h.1 hc44
        refine R_eqS_ic (tgt := 90) (pc' := 78) dX9_fondBy_75 (by decide) hc44 rfl ?_
        refine R_iconst (pc' := 91) dX9_fondBy_90 rfl ?_
        refine R_goto (tgt := 95) dX9_fondBy_91 (by decide) ?_
        refine R_iadd (pc' := 96) dX9_fondBy_95 rfl ?_
        refine R_istore_n (L' := [_, _, _, _, _, _]) (pc' := 97) dX9_fondBy_96 (by decide) rfl rfl rfl ?_
        refine R_iinc (L' := [_, _, _, _, _, _]) (pc' := 100) dX9_fondBy_97 rfl (by decide) rfl rfl rfl ?_
        refine R_goto (tgt := 28) dX9_fondBy_100 (by decide) ?_
        exact WP_wk (wk_e (wk_e (wk_e (wk_e (wk_e (wk_e wk_n)))))) h
      · have h := h.2 hc44
        refine R_eqD_ic (tgt := 90) (pc' := 78) dX9_fondBy_75 (by decide) hc44 ⟨h.1, ir_l (by decide) (by decide)⟩ rfl ?_
        have h := h.2
        refine R_aload_n (pc' := 79) dX9_fondBy_78 rfl i108.1 rfl ?_
        refine Q_getfr (v := 109) (J := 5) (pc' := 82) rfl dX9_fondBy_79 l_RX9_25 i108 fd9_5.1 fd9_5.2.1 fd9_5.2.2.1 fd9_5.2.2.2 f108_5 rfl ?_
        refine R_iload (pc' := 84) dX9_fondBy_82 rfl rfl ?_
        have hs45 := h.1
        have h := h.2
        refine Q_iaload (N := 6) (pc' := 85) rfl dX9_fondBy_84 i109 (by decide) hs45 rfl ?_
        refine R_bipush (pc' := 87) dX9_fondBy_85 (by decide) rfl ?_
        by_cases hc46 : (c39 109 a5) = 6
        · have h := h.1 hc46
          refine R_neS_ic (tgt := 94) (pc' := 90) dX9_fondBy_87 (by decide) hc46 rfl ?_
          refine R_iconst (pc' := 91) dX9_fondBy_90 rfl ?_
          refine R_goto (tgt := 95) dX9_fondBy_91 (by decide) ?_
          refine R_iadd (pc' := 96) dX9_fondBy_95 rfl ?_
          refine R_istore_n (L' := [_, _, _, _, _, _]) (pc' := 97) dX9_fondBy_96 (by decide) rfl rfl rfl ?_
          refine R_iinc (L' := [_, _, _, _, _, _]) (pc' := 100) dX9_fondBy_97 rfl (by decide) rfl rfl rfl ?_
          refine R_goto (tgt := 28) dX9_fondBy_100 (by decide) ?_
          exact WP_wk (wk_e (wk_e (wk_e (wk_e (wk_e (wk_e wk_n)))))) h
        · have h := h.2 hc46
          refine R_neD_ic (tgt := 94) (pc' := 90) dX9_fondBy_87 (by decide) hc46 ⟨h.1, ir_l (by decide) (by decide)⟩ rfl ?_
          have h := h.2
          refine R_iconst (pc' := 95) dX9_fondBy_94 rfl ?_
          refine R_iadd (pc' := 96) dX9_fondBy_95 rfl ?_
          refine R_istore_n (L' := [_, _, _, _, _, _]) (pc' := 97) dX9_fondBy_96 (by decide) rfl rfl rfl ?_
          refine R_iinc (L' := [_, _, _, _, _, _]) (pc' := 100) dX9_fondBy_97 rfl (by decide) rfl rfl rfl ?_
          refine R_goto (tgt := 28) dX9_fondBy_100 (by decide) ?_
          exact WP_wk (wk_e (wk_e (wk_e (wk_e (wk_e (wk_e wk_n)))))) h
theorem e_X9_fondBy {K : SK} {d : Nat} {c : ct} {Q : ct → Int → Prop} (a1 : Int) (h : WI K (d + 1) mX9_fondBy 0 [(2, 108), (0, a1), (9, 0), (9, 0), (9, 0), (9, 0)] [] c Q) : CI K (d + 1) mX9_fondBy [(2, 108), (0, a1)] c Q := CM_ofS (by decide) (Nat.le_of_ble_eq_true rfl) _ rfl h
set_option maxRecDepth 100000 in
theorem s_X9_fond_0 {K : SK} {d : Nat} {c : ct} {Q : ct → Int → Prop} (a1 : Int) (h : CV K d mX9_layLikes [(2, 108)] c (fun c1 => CI K d mX9_fondBy [(2, 108), (0, a1)] c1 (fun c3 r4 => Q c3 r4))) : WI K (d + 1) mX9_fond 0 [(2, 108), (0, a1)] [] c Q := by
  refine R_aload_n (pc' := 1) dX9_fond_0 rfl i108.1 rfl ?_
  refine Q_callVV (vs := []) (st := []) (pc' := 4) dX9_fond_1 l_RX9_358 i108 (by decide) rfl rfl (Nat.le_of_ble_eq_true rfl) rfl (Nat.zero_le _) (Nat.zero_le _) rfl ?_
  refine CV.mono h (fun c1 h => ?_)
  refine R_aload_n (pc' := 5) dX9_fond_4 rfl i108.1 rfl ?_
  refine R_iload_n (pc' := 6) dX9_fond_5 rfl rfl ?_
  refine Q_callVI (vs := [(0, a1)]) (st := []) (pc' := 9) dX9_fond_6 l_RX9_361 i108 (by decide) rfl rfl (Nat.le_of_ble_eq_true rfl) rfl (Nat.zero_le _) (Nat.zero_le _) rfl ?_
  refine CI.mono h (fun c3 r4 h => ?_)
  exact Q_iret dX9_fond_9 rfl h
theorem e_X9_fond {K : SK} {d : Nat} {c : ct} {Q : ct → Int → Prop} (a1 : Int) (h : WI K (d + 1) mX9_fond 0 [(2, 108), (0, a1)] [] c Q) : CI K (d + 1) mX9_fond [(2, 108), (0, a1)] c Q := CM_ofS (by decide) (Nat.le_of_ble_eq_true rfl) _ rfl h
set_option maxRecDepth 100000 in
theorem s_X9_allFondBy_0 {K : SK} {d : Nat} {c : ct} {Q : ct → Int → Prop}  (h : WI K (d + 1) mX9_allFondBy 4 [(2, 108), (0, 0), (0, 0)] [] c Q) : WI K (d + 1) mX9_allFondBy 0 [(2, 108), (9, 0), (9, 0)] [] c Q := by
  refine R_iconst (pc' := 1) dX9_allFondBy_0 rfl ?_
  refine R_istore_n (L' := [_, _, _]) (pc' := 2) dX9_allFondBy_1 (by decide) rfl rfl rfl ?_
  refine R_iconst (pc' := 3) dX9_allFondBy_2 rfl ?_
  refine R_istore_n (L' := [_, _, _]) (pc' := 4) dX9_allFondBy_3 (by decide) rfl rfl rfl ?_
  exact WP_wk (wk_e (wk_e (wk_e wk_n))) h
set_option maxRecDepth 100000 in
theorem s_X9_allFondBy_4 {K : SK} {d : Nat} {c : ct} {Q : ct → Int → Prop} (a1 : Int) (a2 : Int) (h : (ir a2 ∧ ir (c 108 0)) ∧ ((c 108 0) ≤ a2 → Q c a1) ∧ (¬ ((c 108 0) ≤ a2) → CI K d mX9_fondBy [(2, 108), (0, a2)] c (fun c3 r4 => WI K (d + 1) mX9_allFondBy 4 [(2, 108), (0, (a1 + r4)), (0, (a2 + 1))] [] c3 Q))) : WI K (d + 1) mX9_allFondBy 4 [(2, 108), (0, a1), (0, a2)] [] c Q := by
  refine R_iload_n (pc' := 5) dX9_allFondBy_4 rfl rfl ?_
  refine R_aload_n (pc' := 6) dX9_allFondBy_5 rfl i108.1 rfl ?_
  refine Q_getfi (J := 0) (pc' := 9) rfl dX9_allFondBy_6 l_RX9_7 i108 fd9_0.1 fd9_0.2.1 fd9_0.2.2.1 rfl ?_
  have hs2 := h.1
  have h := h.2
  refine R_icmp_ge (tgt := 26) (pc' := 12) dX9_allFondBy_9 (by decide) hs2.1 hs2.2 rfl (fun hc1 => ?_) (fun hc1 => ?_)
  · have h := h.1 hc1
    refine R_iload_n (pc' := 27) dX9_allFondBy_26 rfl rfl ?_
    exact Q_iret dX9_allFondBy_27 rfl h
  · have h := h.2 hc1
    refine R_iload_n (pc' := 13) dX9_allFondBy_12 rfl rfl ?_
    refine R_aload_n (pc' := 14) dX9_allFondBy_13 rfl i108.1 rfl ?_
    refine R_iload_n (pc' := 15) dX9_allFondBy_14 rfl rfl ?_
    refine Q_callVI (vs := [(0, a2)]) (st := [(0, a1)]) (pc' := 18) dX9_allFondBy_15 l_RX9_361 i108 (by decide) rfl rfl (Nat.le_of_ble_eq_true rfl) rfl (Nat.zero_le _) (Nat.zero_le _) rfl ?_
    refine CI.mono h (fun c3 r4 h => ?_)
    refine R_iadd (pc' := 19) dX9_allFondBy_18 rfl ?_
    refine R_istore_n (L' := [_, _, _]) (pc' := 20) dX9_allFondBy_19 (by decide) rfl rfl rfl ?_
    refine R_iinc (L' := [_, _, _]) (pc' := 23) dX9_allFondBy_20 rfl (by decide) rfl rfl rfl ?_
    refine R_goto (tgt := 4) dX9_allFondBy_23 (by decide) ?_
    exact WP_wk (wk_e (wk_e (wk_e wk_n))) h
theorem e_X9_allFondBy {K : SK} {d : Nat} {c : ct} {Q : ct → Int → Prop}  (h : WI K (d + 1) mX9_allFondBy 0 [(2, 108), (9, 0), (9, 0)] [] c Q) : CI K (d + 1) mX9_allFondBy [(2, 108)] c Q := CM_ofS (by decide) (Nat.le_of_ble_eq_true rfl) _ rfl h
set_option maxRecDepth 100000 in
theorem s_X9_allFond_0 {K : SK} {d : Nat} {c : ct} {Q : ct → Int → Prop}  (h : CV K d mX9_layLikes [(2, 108)] c (fun c1 => CI K d mX9_allFondBy [(2, 108)] c1 (fun c3 r4 => Q c3 r4))) : WI K (d + 1) mX9_allFond 0 [(2, 108)] [] c Q := by
  refine R_aload_n (pc' := 1) dX9_allFond_0 rfl i108.1 rfl ?_
  refine Q_callVV (vs := []) (st := []) (pc' := 4) dX9_allFond_1 l_RX9_358 i108 (by decide) rfl rfl (Nat.le_of_ble_eq_true rfl) rfl (Nat.zero_le _) (Nat.zero_le _) rfl ?_
  refine CV.mono h (fun c1 h => ?_)
  refine R_aload_n (pc' := 5) dX9_allFond_4 rfl i108.1 rfl ?_
  refine Q_callVI (vs := []) (st := []) (pc' := 8) dX9_allFond_5 l_RX9_364 i108 (by decide) rfl rfl (Nat.le_of_ble_eq_true rfl) rfl (Nat.zero_le _) (Nat.zero_le _) rfl ?_
  refine CI.mono h (fun c3 r4 h => ?_)
  exact Q_iret dX9_allFond_8 rfl h
theorem e_X9_allFond {K : SK} {d : Nat} {c : ct} {Q : ct → Int → Prop}  (h : WI K (d + 1) mX9_allFond 0 [(2, 108)] [] c Q) : CI K (d + 1) mX9_allFond [(2, 108)] c Q := CM_ofS (by decide) (Nat.le_of_ble_eq_true rfl) _ rfl h
set_option maxRecDepth 100000 in
theorem s_X9_clashesBy_0 {K : SK} {d : Nat} {c : ct} {Q : ct → Int → Prop}  (h : WI K (d + 1) mX9_clashesBy 4 [(2, 108), (0, 0), (0, 0), (9, 0)] [] c Q) : WI K (d + 1) mX9_clashesBy 0 [(2, 108), (9, 0), (9, 0), (9, 0)] [] c Q := by
  refine R_iconst (pc' := 1) dX9_clashesBy_0 rfl ?_
  refine R_istore_n (L' := [_, _, _, _]) (pc' := 2) dX9_clashesBy_1 (by decide) rfl rfl rfl ?_
  refine R_iconst (pc' := 3) dX9_clashesBy_2 rfl ?_
  refine R_istore_n (L' := [_, _, _, _]) (pc' := 4) dX9_clashesBy_3 (by decide) rfl rfl rfl ?_
  exact WP_wk (wk_e (wk_e (wk_e (wk_u wk_n)))) h
set_option maxRecDepth 100000 in
theorem s_X9_clashesBy_4 {K : SK} {d : Nat} {c : ct} {Q : ct → Int → Prop} (a1 : Int) (a2 : Int) (h : (ir a2 ∧ ir (c 108 0)) ∧ ((c 108 0) ≤ a2 → Q c a1) ∧ (¬ ((c 108 0) ≤ a2) → WI K (d + 1) mX9_clashesBy 16 [(2, 108), (0, a1), (0, a2), (0, (a2 + 1))] [] c Q)) : WI K (d + 1) mX9_clashesBy 4 [(2, 108), (0, a1), (0, a2), (9, 0)] [] c Q := by
  refine R_iload_n (pc' := 5) dX9_clashesBy_4 rfl rfl ?_
  refine R_aload_n (pc' := 6) dX9_clashesBy_5 rfl i108.1 rfl ?_
  refine Q_getfi (J := 0) (pc' := 9) rfl dX9_clashesBy_6 l_RX9_7 i108 fd9_0.1 fd9_0.2.1 fd9_0.2.2.1 rfl ?_
  have hs2 := h.1
  have h := h.2
  refine R_icmp_ge (tgt := 110) (pc' := 12) dX9_clashesBy_9 (by decide) hs2.1 hs2.2 rfl (fun hc1 => ?_) (fun hc1 => ?_)
  · have h := h.1 hc1
    refine R_iload_n (pc' := 111) dX9_clashesBy_110 rfl rfl ?_
    exact Q_iret dX9_clashesBy_111 rfl h
  · have h := h.2 hc1
    refine R_iload_n (pc' := 13) dX9_clashesBy_12 rfl rfl ?_
    refine R_iconst (pc' := 14) dX9_clashesBy_13 rfl ?_
    refine R_iadd (pc' := 15) dX9_clashesBy_14 rfl ?_
    refine R_istore_n (L' := [_, _, _, _]) (pc' := 16) dX9_clashesBy_15 (by decide) rfl rfl rfl ?_
    exact WP_wk (wk_e (wk_e (wk_e (wk_e wk_n)))) h
set_option maxRecDepth 100000 in
theorem s_X9_clashesBy_16 {K : SK} {d : Nat} {c : ct} {Q : ct → Int → Prop} (a1 : Int) (a2 : Int) (a3 : Int) (h : (ir a3 ∧ ir (c 108 0)) ∧ ((c 108 0) ≤ a3 → WI K (d + 1) mX9_clashesBy 4 [(2, 108), (0, a1), (0, (a2 + 1)), (9, 0)] [] c Q) ∧ (¬ ((c 108 0) ≤ a3) → CI K d mX9_isCompany [(2, 108), (0, a2)] c (fun c3 r4 => (r4 = 0 → WI K (d + 1) mX9_clashesBy 16 [(2, 108), (0, a1), (0, a2), (0, (a3 + 1))] [] c3 Q) ∧ (¬ (r4 = 0) → ir r4 ∧ CI K d mX9_isCompany [(2, 108), (0, a3)] c3 (fun c6 r7 => (r7 = 0 → WI K (d + 1) mX9_clashesBy 16 [(2, 108), (0, a1), (0, a2), (0, (a3 + 1))] [] c6 Q) ∧ (¬ (r7 = 0) → ir r7 ∧ ((0 ≤ a2 ∧ a2 < 6)) ∧ ((0 ≤ a3 ∧ a3 < 6)) ∧ CI K d mX9_isBeside [(2, 108), (0, (c6 111 a2)), (0, (c6 111 a3))] c6 (fun c11 r12 => (r12 = 0 → WI K (d + 1) mX9_clashesBy 16 [(2, 108), (0, a1), (0, a2), (0, (a3 + 1))] [] c11 Q) ∧ (¬ (r12 = 0) → ir r12 ∧ ((0 ≤ ((6 * a2) + a3) ∧ ((6 * a2) + a3) < 36)) ∧ (ir (c11 124 ((6 * a2) + a3))) ∧ ((c11 124 ((6 * a2) + a3)) < 0 → WI K (d + 1) mX9_clashesBy 16 [(2, 108), (0, (a1 + 1)), (0, a2), (0, (a3 + 1))] [] c11 Q) ∧ (¬ ((c11 124 ((6 * a2) + a3)) < 0) → ((0 ≤ ((6 * a3) + a2) ∧ ((6 * a3) + a2) < 36)) ∧ (ir (c11 124 ((6 * a3) + a2))) ∧ (0 ≤ (c11 124 ((6 * a3) + a2)) → WI K (d + 1) mX9_clashesBy 16 [(2, 108), (0, (a1 + 0)), (0, a2), (0, (a3 + 1))] [] c11 Q) ∧ (¬ (0 ≤ (c11 124 ((6 * a3) + a2))) → WI K (d + 1) mX9_clashesBy 16 [(2, 108), (0, (a1 + 1)), (0, a2), (0, (a3 + 1))] [] c11 Q)))))))))) : WI K (d + 1) mX9_clashesBy 16 [(2, 108), (0, a1), (0, a2), (0, a3)] [] c Q := by
  refine R_iload_n (pc' := 17) dX9_clashesBy_16 rfl rfl ?_
  refine R_aload_n (pc' := 18) dX9_clashesBy_17 rfl i108.1 rfl ?_
  refine Q_getfi (J := 0) (pc' := 21) rfl dX9_clashesBy_18 l_RX9_7 i108 fd9_0.1 fd9_0.2.1 fd9_0.2.2.1 rfl ?_
  have hs2 := h.1
  have h := h.2
  refine R_icmp_ge (tgt := 104) (pc' := 24) dX9_clashesBy_21 (by decide) hs2.1 hs2.2 rfl (fun hc1 => ?_) (fun hc1 => ?_)
  · have h := h.1 hc1
    refine R_iinc (L' := [_, _, _, _]) (pc' := 107) dX9_clashesBy_104 rfl (by decide) rfl rfl rfl ?_
    refine R_goto (tgt := 4) dX9_clashesBy_107 (by decide) ?_
    exact WP_wk (wk_e (wk_e (wk_e (wk_u wk_n)))) h
  · have h := h.2 hc1
    refine R_aload_n (pc' := 25) dX9_clashesBy_24 rfl i108.1 rfl ?_
    refine R_iload_n (pc' := 26) dX9_clashesBy_25 rfl rfl ?_
    refine Q_callVI (vs := [(0, a2)]) (st := []) (pc' := 29) dX9_clashesBy_26 l_RX9_346 i108 (by decide) rfl rfl (Nat.le_of_ble_eq_true rfl) rfl (Nat.zero_le _) (Nat.zero_le _) rfl ?_
    refine CI.mono h (fun c3 r4 h => ?_)
    by_cases hc5 : r4 = 0
    · have h := h.1 hc5
      refine R_eqS_if (tgt := 98) (pc' := 32) dX9_clashesBy_29 (by decide) hc5 rfl ?_
      refine R_iinc (L' := [_, _, _, _]) (pc' := 101) dX9_clashesBy_98 rfl (by decide) rfl rfl rfl ?_
      refine R_goto (tgt := 16) dX9_clashesBy_101 (by decide) ?_
      exact WP_wk (wk_e (wk_e (wk_e (wk_e wk_n)))) h
    · have h := h.2 hc5
      refine R_eqD_if (tgt := 98) (pc' := 32) dX9_clashesBy_29 (by decide) hc5 h.1 rfl ?_
      have h := h.2
      refine R_aload_n (pc' := 33) dX9_clashesBy_32 rfl i108.1 rfl ?_
      refine R_iload_n (pc' := 34) dX9_clashesBy_33 rfl rfl ?_
      refine Q_callVI (vs := [(0, a3)]) (st := []) (pc' := 37) dX9_clashesBy_34 l_RX9_346 i108 (by decide) rfl rfl (Nat.le_of_ble_eq_true rfl) rfl (Nat.zero_le _) (Nat.zero_le _) rfl ?_
      refine CI.mono h (fun c6 r7 h => ?_)
      by_cases hc8 : r7 = 0
      · have h := h.1 hc8
        refine R_eqS_if (tgt := 98) (pc' := 40) dX9_clashesBy_37 (by decide) hc8 rfl ?_
        refine R_iinc (L' := [_, _, _, _]) (pc' := 101) dX9_clashesBy_98 rfl (by decide) rfl rfl rfl ?_
        refine R_goto (tgt := 16) dX9_clashesBy_101 (by decide) ?_
        exact WP_wk (wk_e (wk_e (wk_e (wk_e wk_n)))) h
      · have h := h.2 hc8
        refine R_eqD_if (tgt := 98) (pc' := 40) dX9_clashesBy_37 (by decide) hc8 h.1 rfl ?_
        have h := h.2
        refine R_aload_n (pc' := 41) dX9_clashesBy_40 rfl i108.1 rfl ?_
        refine R_aload_n (pc' := 42) dX9_clashesBy_41 rfl i108.1 rfl ?_
        refine Q_getfr (v := 111) (J := 7) (pc' := 45) rfl dX9_clashesBy_42 l_RX9_32 i108 fd9_7.1 fd9_7.2.1 fd9_7.2.2.1 fd9_7.2.2.2 f108_7 rfl ?_
        refine R_iload_n (pc' := 46) dX9_clashesBy_45 rfl rfl ?_
        have hs9 := h.1
        have h := h.2
        refine Q_iaload (N := 6) (pc' := 47) rfl dX9_clashesBy_46 i111 (by decide) hs9 rfl ?_
        refine R_aload_n (pc' := 48) dX9_clashesBy_47 rfl i108.1 rfl ?_
        refine Q_getfr (v := 111) (J := 7) (pc' := 51) rfl dX9_clashesBy_48 l_RX9_32 i108 fd9_7.1 fd9_7.2.1 fd9_7.2.2.1 fd9_7.2.2.2 f108_7 rfl ?_
        refine R_iload_n (pc' := 52) dX9_clashesBy_51 rfl rfl ?_
        have hs10 := h.1
        have h := h.2
        refine Q_iaload (N := 6) (pc' := 53) rfl dX9_clashesBy_52 i111 (by decide) hs10 rfl ?_
        refine Q_callVI (vs := [(0, (c6 111 a2)), (0, (c6 111 a3))]) (st := []) (pc' := 56) dX9_clashesBy_53 l_RX9_349 i108 (by decide) rfl rfl (Nat.le_of_ble_eq_true rfl) rfl (Nat.zero_le _) (Nat.zero_le _) rfl ?_
        refine CI.mono h (fun c11 r12 h => ?_)
        by_cases hc13 : r12 = 0
        · have h := h.1 hc13
          refine R_neS_if (tgt := 62) (pc' := 59) dX9_clashesBy_56 (by decide) hc13 rfl ?_
          refine R_goto (tgt := 98) dX9_clashesBy_59 (by decide) ?_
          refine R_iinc (L' := [_, _, _, _]) (pc' := 101) dX9_clashesBy_98 rfl (by decide) rfl rfl rfl ?_
          refine R_goto (tgt := 16) dX9_clashesBy_101 (by decide) ?_
          exact WP_wk (wk_e (wk_e (wk_e (wk_e wk_n)))) h
        · have h := h.2 hc13
          refine R_neD_if (tgt := 62) (pc' := 59) dX9_clashesBy_56 (by decide) hc13 h.1 rfl ?_
          have h := h.2
          refine R_iload_n (pc' := 63) dX9_clashesBy_62 rfl rfl ?_
          refine R_aload_n (pc' := 64) dX9_clashesBy_63 rfl i108.1 rfl ?_
          refine Q_getfr (v := 124) (J := 28) (pc' := 67) rfl dX9_clashesBy_64 l_RX9_96 i108 fd9_28.1 fd9_28.2.1 fd9_28.2.2.1 fd9_28.2.2.2 f108_28 rfl ?_
          refine R_bipush (pc' := 69) dX9_clashesBy_67 (by decide) rfl ?_
          refine R_iload_n (pc' := 70) dX9_clashesBy_69 rfl rfl ?_
          refine R_imul (pc' := 71) dX9_clashesBy_70 rfl ?_
          refine R_iload_n (pc' := 72) dX9_clashesBy_71 rfl rfl ?_
          refine R_iadd (pc' := 73) dX9_clashesBy_72 rfl ?_
          have hs14 := h.1
          have h := h.2
          refine Q_iaload (N := 36) (pc' := 74) rfl dX9_clashesBy_73 i124 (by decide) hs14 rfl ?_
          have hs16 := h.1
          have h := h.2
          refine R_if_lt (tgt := 91) (pc' := 77) dX9_clashesBy_74 (by decide) hs16  rfl (fun hc15 => ?_) (fun hc15 => ?_)
          · have h := h.1 hc15
            refine R_iconst (pc' := 92) dX9_clashesBy_91 rfl ?_
            refine R_goto (tgt := 96) dX9_clashesBy_92 (by decide) ?_
            refine R_iadd (pc' := 97) dX9_clashesBy_96 rfl ?_
            refine R_istore_n (L' := [_, _, _, _]) (pc' := 98) dX9_clashesBy_97 (by decide) rfl rfl rfl ?_
            refine R_iinc (L' := [_, _, _, _]) (pc' := 101) dX9_clashesBy_98 rfl (by decide) rfl rfl rfl ?_
            refine R_goto (tgt := 16) dX9_clashesBy_101 (by decide) ?_
            exact WP_wk (wk_e (wk_e (wk_e (wk_e wk_n)))) h
          · have h := h.2 hc15
            refine R_aload_n (pc' := 78) dX9_clashesBy_77 rfl i108.1 rfl ?_
            refine Q_getfr (v := 124) (J := 28) (pc' := 81) rfl dX9_clashesBy_78 l_RX9_96 i108 fd9_28.1 fd9_28.2.1 fd9_28.2.2.1 fd9_28.2.2.2 f108_28 rfl ?_
            refine R_bipush (pc' := 83) dX9_clashesBy_81 (by decide) rfl ?_
            refine R_iload_n (pc' := 84) dX9_clashesBy_83 rfl rfl ?_
            refine R_imul (pc' := 85) dX9_clashesBy_84 rfl ?_
            refine R_iload_n (pc' := 86) dX9_clashesBy_85 rfl rfl ?_
            refine R_iadd (pc' := 87) dX9_clashesBy_86 rfl ?_
            have hs17 := h.1
            have h := h.2
            refine Q_iaload (N := 36) (pc' := 88) rfl dX9_clashesBy_87 i124 (by decide) hs17 rfl ?_
            have hs19 := h.1
            have h := h.2
            refine R_if_ge (tgt := 95) (pc' := 91) dX9_clashesBy_88 (by decide) hs19  rfl (fun hc18 => ?_) (fun hc18 => ?_)
            · have h := h.1 hc18
              refine R_iconst (pc' := 96) dX9_clashesBy_95 rfl ?_
              refine R_iadd (pc' := 97) dX9_clashesBy_96 rfl ?_
              refine R_istore_n (L' := [_, _, _, _]) (pc' := 98) dX9_clashesBy_97 (by decide) rfl rfl rfl ?_
              refine R_iinc (L' := [_, _, _, _]) (pc' := 101) dX9_clashesBy_98 rfl (by decide) rfl rfl rfl ?_
              refine R_goto (tgt := 16) dX9_clashesBy_101 (by decide) ?_
              exact WP_wk (wk_e (wk_e (wk_e (wk_e wk_n)))) h
            · have h := h.2 hc18
              refine R_iconst (pc' := 92) dX9_clashesBy_91 rfl ?_
              refine R_goto (tgt := 96) dX9_clashesBy_92 (by decide) ?_
              refine R_iadd (pc' := 97) dX9_clashesBy_96 rfl ?_
              refine R_istore_n (L' := [_, _, _, _]) (pc' := 98) dX9_clashesBy_97 (by decide) rfl rfl rfl ?_
              refine R_iinc (L' := [_, _, _, _]) (pc' := 101) dX9_clashesBy_98 rfl (by decide) rfl rfl rfl ?_
              refine R_goto (tgt := 16) dX9_clashesBy_101 (by decide) ?_
              exact WP_wk (wk_e (wk_e (wk_e (wk_e wk_n)))) h
theorem e_X9_clashesBy {K : SK} {d : Nat} {c : ct} {Q : ct → Int → Prop}  (h : WI K (d + 1) mX9_clashesBy 0 [(2, 108), (9, 0), (9, 0), (9, 0)] [] c Q) : CI K (d + 1) mX9_clashesBy [(2, 108)] c Q := CM_ofS (by decide) (Nat.le_of_ble_eq_true rfl) _ rfl h
set_option maxRecDepth 100000 in
theorem s_X9_clashes_0 {K : SK} {d : Nat} {c : ct} {Q : ct → Int → Prop}  (h : CV K d mX9_layLikes [(2, 108)] c (fun c1 => CI K d mX9_clashesBy [(2, 108)] c1 (fun c3 r4 => Q c3 r4))) : WI K (d + 1) mX9_clashes 0 [(2, 108)] [] c Q := by
  refine R_aload_n (pc' := 1) dX9_clashes_0 rfl i108.1 rfl ?_
  refine Q_callVV (vs := []) (st := []) (pc' := 4) dX9_clashes_1 l_RX9_358 i108 (by decide) rfl rfl (Nat.le_of_ble_eq_true rfl) rfl (Nat.zero_le _) (Nat.zero_le _) rfl ?_
  refine CV.mono h (fun c1 h => ?_)
  refine R_aload_n (pc' := 5) dX9_clashes_4 rfl i108.1 rfl ?_
  refine Q_callVI (vs := []) (st := []) (pc' := 8) dX9_clashes_5 l_RX9_367 i108 (by decide) rfl rfl (Nat.le_of_ble_eq_true rfl) rfl (Nat.zero_le _) (Nat.zero_le _) rfl ?_
  refine CI.mono h (fun c3 r4 h => ?_)
  exact Q_iret dX9_clashes_8 rfl h
theorem e_X9_clashes {K : SK} {d : Nat} {c : ct} {Q : ct → Int → Prop}  (h : WI K (d + 1) mX9_clashes 0 [(2, 108)] [] c Q) : CI K (d + 1) mX9_clashes [(2, 108)] c Q := CM_ofS (by decide) (Nat.le_of_ble_eq_true rfl) _ rfl h
set_option maxRecDepth 100000 in
theorem s_X9_of_0 {K : SK} {d : Nat} {c : ct} {Q : ct → Int → Prop} (a1 : Int) (a2 : Int) (h : CI K d mX9_isGuest [(2, 108), (0, a1)] c (fun c1 r2 => (r2 = 0 → Q c1 (-10001)) ∧ (¬ (r2 = 0) → ir r2 ∧ ir a2 ∧ (a2 = 0 → ((0 ≤ a1 ∧ a1 < 6)) ∧ Q c1 (c1 109 a1)) ∧ (a2 = 1 → ((0 ≤ a1 ∧ a1 < 6)) ∧ Q c1 (c1 110 a1)) ∧ (a2 = 2 → ((0 ≤ a1 ∧ a1 < 6)) ∧ Q c1 (c1 111 a1)) ∧ (a2 = 3 → CI K d mX9_has [(2, 108), (0, (c1 108 2)), (0, a1)] c1 (fun c11 r12 => (r12 = 0 → Q c11 0) ∧ (¬ (r12 = 0) → ir r12 ∧ Q c11 1))) ∧ (a2 = 4 → ((0 ≤ a1 ∧ a1 < 6)) ∧ Q c1 (c1 112 a1)) ∧ (a2 = 5 → CI K d mX9_has [(2, 108), (0, (c1 108 1)), (0, a1)] c1 (fun c17 r18 => (r18 = 0 → Q c17 0) ∧ (¬ (r18 = 0) → ir r18 ∧ Q c17 1))) ∧ (a2 = 6 → CI K d mX9_beside [(2, 108), (0, a1)] c1 (fun c21 r22 => Q c21 r22)) ∧ (a2 = 7 → CI K d mX9_fond [(2, 108), (0, a1)] c1 (fun c24 r25 => Q c24 r25)) ∧ ((a2 < 0 ∨ 7 < a2) → Q c1 (-10001))))) : WI K (d + 1) mX9_of 0 [(2, 108), (0, a1), (0, a2)] [] c Q := by
  refine R_aload_n (pc' := 1) dX9_of_0 rfl i108.1 rfl ?_
  refine R_iload_n (pc' := 2) dX9_of_1 rfl rfl ?_
  refine Q_callVI (vs := [(0, a1)]) (st := []) (pc' := 5) dX9_of_2 l_RX9_260 i108 (by decide) rfl rfl (Nat.le_of_ble_eq_true rfl) rfl (Nat.zero_le _) (Nat.zero_le _) rfl ?_
  refine CI.mono h (fun c1 r2 h => ?_)
  by_cases hc3 : r2 = 0
  · have h := h.1 hc3
    refine R_neS_if (tgt := 12) (pc' := 8) dX9_of_5 (by decide) hc3 rfl ?_
    refine R_sipush (pc' := 11) dX9_of_8 (by decide) rfl ?_
    exact Q_iret dX9_of_11 rfl h
  · have h := h.2 hc3
    refine R_neD_if (tgt := 12) (pc' := 8) dX9_of_5 (by decide) hc3 h.1 rfl ?_
    have h := h.2
    refine R_iload_n (pc' := 13) dX9_of_12 rfl rfl ?_
    have hs0 := h.1
    have h := h.2
    rcases (show a2 = 0 ∨ a2 = 1 ∨ a2 = 2 ∨ a2 = 3 ∨ a2 = 4 ∨ a2 = 5 ∨ a2 = 6 ∨ a2 = 7 ∨ (a2 < 0 ∨ 7 < a2) by omega) with hk | hk | hk | hk | hk | hk | hk | hk | hk
    · have h := h.1 hk
      refine R_tableAt (tgt := 60) 0 hk dX9_of_13 (ir_l (by decide) (by decide)) (by decide) rfl (by decide) ?_
      refine R_aload_n (pc' := 61) dX9_of_60 rfl i108.1 rfl ?_
      refine Q_getfr (v := 109) (J := 5) (pc' := 64) rfl dX9_of_61 l_RX9_25 i108 fd9_5.1 fd9_5.2.1 fd9_5.2.2.1 fd9_5.2.2.2 f108_5 rfl ?_
      refine R_iload_n (pc' := 65) dX9_of_64 rfl rfl ?_
      have hs5 := h.1
      have h := h.2
      refine Q_iaload (N := 6) (pc' := 66) rfl dX9_of_65 i109 (by decide) hs5 rfl ?_
      exact Q_iret dX9_of_66 rfl h
    · have h := h.2.1 hk
      refine R_tableAt (tgt := 67) 1 hk dX9_of_13 (ir_l (by decide) (by decide)) (by decide) rfl (by decide) ?_
      refine R_aload_n (pc' := 68) dX9_of_67 rfl i108.1 rfl ?_
      refine Q_getfr (v := 110) (J := 6) (pc' := 71) rfl dX9_of_68 l_RX9_29 i108 fd9_6.1 fd9_6.2.1 fd9_6.2.2.1 fd9_6.2.2.2 f108_6 rfl ?_
      refine R_iload_n (pc' := 72) dX9_of_71 rfl rfl ?_
      have hs7 := h.1
      have h := h.2
      refine Q_iaload (N := 6) (pc' := 73) rfl dX9_of_72 i110 (by decide) hs7 rfl ?_
      exact Q_iret dX9_of_73 rfl h
    · have h := h.2.2.1 hk
      refine R_tableAt (tgt := 74) 2 hk dX9_of_13 (ir_l (by decide) (by decide)) (by decide) rfl (by decide) ?_
      refine R_aload_n (pc' := 75) dX9_of_74 rfl i108.1 rfl ?_
      refine Q_getfr (v := 111) (J := 7) (pc' := 78) rfl dX9_of_75 l_RX9_32 i108 fd9_7.1 fd9_7.2.1 fd9_7.2.2.1 fd9_7.2.2.2 f108_7 rfl ?_
      refine R_iload_n (pc' := 79) dX9_of_78 rfl rfl ?_
      have hs9 := h.1
      have h := h.2
      refine Q_iaload (N := 6) (pc' := 80) rfl dX9_of_79 i111 (by decide) hs9 rfl ?_
      exact Q_iret dX9_of_80 rfl h
    · have h := h.2.2.2.1 hk
      refine R_tableAt (tgt := 81) 3 hk dX9_of_13 (ir_l (by decide) (by decide)) (by decide) rfl (by decide) ?_
      refine R_aload_n (pc' := 82) dX9_of_81 rfl i108.1 rfl ?_
      refine R_aload_n (pc' := 83) dX9_of_82 rfl i108.1 rfl ?_
      refine Q_getfi (J := 2) (pc' := 86) rfl dX9_of_83 l_RX9_16 i108 fd9_2.1 fd9_2.2.1 fd9_2.2.2.1 rfl ?_
      refine R_iload_n (pc' := 87) dX9_of_86 rfl rfl ?_
      refine Q_callVI (vs := [(0, (c1 108 2)), (0, a1)]) (st := []) (pc' := 90) dX9_of_87 l_RX9_248 i108 (by decide) rfl rfl (Nat.le_of_ble_eq_true rfl) rfl (Nat.zero_le _) (Nat.zero_le _) rfl ?_
      refine CI.mono h (fun c11 r12 h => ?_)
      by_cases hc13 : r12 = 0
      · have h := h.1 hc13
        refine R_eqS_if (tgt := 97) (pc' := 93) dX9_of_90 (by decide) hc13 rfl ?_
        refine R_iconst (pc' := 98) dX9_of_97 rfl ?_
        exact Q_iret dX9_of_98 rfl h
      · have h := h.2 hc13
        refine R_eqD_if (tgt := 97) (pc' := 93) dX9_of_90 (by decide) hc13 h.1 rfl ?_
        have h := h.2
        refine R_iconst (pc' := 94) dX9_of_93 rfl ?_
        refine R_goto (tgt := 98) dX9_of_94 (by decide) ?_
        exact Q_iret dX9_of_98 rfl h
    · have h := h.2.2.2.2.1 hk
      refine R_tableAt (tgt := 99) 4 hk dX9_of_13 (ir_l (by decide) (by decide)) (by decide) rfl (by decide) ?_
      refine R_aload_n (pc' := 100) dX9_of_99 rfl i108.1 rfl ?_
      refine Q_getfr (v := 112) (J := 8) (pc' := 103) rfl dX9_of_100 l_RX9_35 i108 fd9_8.1 fd9_8.2.1 fd9_8.2.2.1 fd9_8.2.2.2 f108_8 rfl ?_
      refine R_iload_n (pc' := 104) dX9_of_103 rfl rfl ?_
      have hs15 := h.1
      have h := h.2
      refine Q_iaload (N := 6) (pc' := 105) rfl dX9_of_104 i112 (by decide) hs15 rfl ?_
      exact Q_iret dX9_of_105 rfl h
    · have h := h.2.2.2.2.2.1 hk
      refine R_tableAt (tgt := 106) 5 hk dX9_of_13 (ir_l (by decide) (by decide)) (by decide) rfl (by decide) ?_
      refine R_aload_n (pc' := 107) dX9_of_106 rfl i108.1 rfl ?_
      refine R_aload_n (pc' := 108) dX9_of_107 rfl i108.1 rfl ?_
      refine Q_getfi (J := 1) (pc' := 111) rfl dX9_of_108 l_RX9_13 i108 fd9_1.1 fd9_1.2.1 fd9_1.2.2.1 rfl ?_
      refine R_iload_n (pc' := 112) dX9_of_111 rfl rfl ?_
      refine Q_callVI (vs := [(0, (c1 108 1)), (0, a1)]) (st := []) (pc' := 115) dX9_of_112 l_RX9_248 i108 (by decide) rfl rfl (Nat.le_of_ble_eq_true rfl) rfl (Nat.zero_le _) (Nat.zero_le _) rfl ?_
      refine CI.mono h (fun c17 r18 h => ?_)
      by_cases hc19 : r18 = 0
      · have h := h.1 hc19
        refine R_eqS_if (tgt := 122) (pc' := 118) dX9_of_115 (by decide) hc19 rfl ?_
        refine R_iconst (pc' := 123) dX9_of_122 rfl ?_
        exact Q_iret dX9_of_123 rfl h
      · have h := h.2 hc19
        refine R_eqD_if (tgt := 122) (pc' := 118) dX9_of_115 (by decide) hc19 h.1 rfl ?_
        have h := h.2
        refine R_iconst (pc' := 119) dX9_of_118 rfl ?_
        refine R_goto (tgt := 123) dX9_of_119 (by decide) ?_
        exact Q_iret dX9_of_123 rfl h
    · have h := h.2.2.2.2.2.2.1 hk
      refine R_tableAt (tgt := 124) 6 hk dX9_of_13 (ir_l (by decide) (by decide)) (by decide) rfl (by decide) ?_
      refine R_aload_n (pc' := 125) dX9_of_124 rfl i108.1 rfl ?_
      refine R_iload_n (pc' := 126) dX9_of_125 rfl rfl ?_
      refine Q_callVI (vs := [(0, a1)]) (st := []) (pc' := 129) dX9_of_126 l_RX9_352 i108 (by decide) rfl rfl (Nat.le_of_ble_eq_true rfl) rfl (Nat.zero_le _) (Nat.zero_le _) rfl ?_
      refine CI.mono h (fun c21 r22 h => ?_)
      exact Q_iret dX9_of_129 rfl h
    · have h := h.2.2.2.2.2.2.2.1 hk
      refine R_tableAt (tgt := 130) 7 hk dX9_of_13 (ir_l (by decide) (by decide)) (by decide) rfl (by decide) ?_
      refine R_aload_n (pc' := 131) dX9_of_130 rfl i108.1 rfl ?_
      refine R_iload_n (pc' := 132) dX9_of_131 rfl rfl ?_
      refine Q_callVI (vs := [(0, a1)]) (st := []) (pc' := 135) dX9_of_132 l_RX9_275 i108 (by decide) rfl rfl (Nat.le_of_ble_eq_true rfl) rfl (Nat.zero_le _) (Nat.zero_le _) rfl ?_
      refine CI.mono h (fun c24 r25 h => ?_)
      exact Q_iret dX9_of_135 rfl h
    · have h := h.2.2.2.2.2.2.2.2 hk
      refine R_tableOut (tgt := 136) dX9_of_13 hs0 hk (by decide) ?_
      refine R_sipush (pc' := 139) dX9_of_136 (by decide) rfl ?_
      exact Q_iret dX9_of_139 rfl h
theorem e_X9_of {K : SK} {d : Nat} {c : ct} {Q : ct → Int → Prop} (a1 : Int) (a2 : Int) (h : WI K (d + 1) mX9_of 0 [(2, 108), (0, a1), (0, a2)] [] c Q) : CI K (d + 1) mX9_of [(2, 108), (0, a1), (0, a2)] c Q := CM_ofS (by decide) (Nat.le_of_ble_eq_true rfl) _ rfl h
set_option maxRecDepth 100000 in
theorem s_X9_isDue_0 {K : SK} {d : Nat} {c : ct} {Q : ct → Int → Prop} (a1 : Int) (h : CI K d mX9_whoSits [(2, 108), (0, a1)] c (fun c1 r2 => (ir r2) ∧ (r2 < 0 → Q c1 0) ∧ (¬ (r2 < 0) → CI K d mX9_has [(2, 108), (0, (c1 108 2)), (0, r2)] c1 (fun c5 r6 => (r6 = 0 → Q c5 0) ∧ (¬ (r6 = 0) → ir r6 ∧ Q c5 1))))) : WI K (d + 1) mX9_isDue 0 [(2, 108), (0, a1), (9, 0)] [] c Q := by
  refine R_aload_n (pc' := 1) dX9_isDue_0 rfl i108.1 rfl ?_
  refine R_iload_n (pc' := 2) dX9_isDue_1 rfl rfl ?_
  refine Q_callVI (vs := [(0, a1)]) (st := []) (pc' := 5) dX9_isDue_2 l_RX9_256 i108 (by decide) rfl rfl (Nat.le_of_ble_eq_true rfl) rfl (Nat.zero_le _) (Nat.zero_le _) rfl ?_
  refine CI.mono h (fun c1 r2 h => ?_)
  refine R_istore_n (L' := [_, _, _]) (pc' := 6) dX9_isDue_5 (by decide) rfl rfl rfl ?_
  refine R_iload_n (pc' := 7) dX9_isDue_6 rfl rfl ?_
  have hs4 := h.1
  have h := h.2
  refine R_if_lt (tgt := 26) (pc' := 10) dX9_isDue_7 (by decide) hs4  rfl (fun hc3 => ?_) (fun hc3 => ?_)
  · have h := h.1 hc3
    refine R_iconst (pc' := 27) dX9_isDue_26 rfl ?_
    exact Q_zret dX9_isDue_27 rfl (Or.inl rfl) h
  · have h := h.2 hc3
    refine R_aload_n (pc' := 11) dX9_isDue_10 rfl i108.1 rfl ?_
    refine R_aload_n (pc' := 12) dX9_isDue_11 rfl i108.1 rfl ?_
    refine Q_getfi (J := 2) (pc' := 15) rfl dX9_isDue_12 l_RX9_16 i108 fd9_2.1 fd9_2.2.1 fd9_2.2.2.1 rfl ?_
    refine R_iload_n (pc' := 16) dX9_isDue_15 rfl rfl ?_
    refine Q_callVI (vs := [(0, (c1 108 2)), (0, r2)]) (st := []) (pc' := 19) dX9_isDue_16 l_RX9_248 i108 (by decide) rfl rfl (Nat.le_of_ble_eq_true rfl) rfl (Nat.zero_le _) (Nat.zero_le _) rfl ?_
    refine CI.mono h (fun c5 r6 h => ?_)
    by_cases hc7 : r6 = 0
    · have h := h.1 hc7
      refine R_eqS_if (tgt := 26) (pc' := 22) dX9_isDue_19 (by decide) hc7 rfl ?_
      refine R_iconst (pc' := 27) dX9_isDue_26 rfl ?_
      exact Q_zret dX9_isDue_27 rfl (Or.inl rfl) h
    · have h := h.2 hc7
      refine R_eqD_if (tgt := 26) (pc' := 22) dX9_isDue_19 (by decide) hc7 h.1 rfl ?_
      have h := h.2
      refine R_iconst (pc' := 23) dX9_isDue_22 rfl ?_
      refine R_goto (tgt := 27) dX9_isDue_23 (by decide) ?_
      exact Q_zret dX9_isDue_27 rfl (Or.inr rfl) h
theorem e_X9_isDue {K : SK} {d : Nat} {c : ct} {Q : ct → Int → Prop} (a1 : Int) (h : WI K (d + 1) mX9_isDue 0 [(2, 108), (0, a1), (9, 0)] [] c Q) : CI K (d + 1) mX9_isDue [(2, 108), (0, a1)] c Q := CM_ofS (by decide) (Nat.le_of_ble_eq_true rfl) _ rfl h
set_option maxRecDepth 100000 in
theorem s_X9_isCovered_0 {K : SK} {d : Nat} {c : ct} {Q : ct → Int → Prop} (a1 : Int) (a2 : Int) (h : WI K (d + 1) mX9_isCovered 2 [(2, 108), (0, a1), (0, a2), (0, 0)] [] c Q) : WI K (d + 1) mX9_isCovered 0 [(2, 108), (0, a1), (0, a2), (9, 0)] [] c Q := by
  refine R_iconst (pc' := 1) dX9_isCovered_0 rfl ?_
  refine R_istore_n (L' := [_, _, _, _]) (pc' := 2) dX9_isCovered_1 (by decide) rfl rfl rfl ?_
  exact WP_wk (wk_e (wk_e (wk_e (wk_e wk_n)))) h
set_option maxRecDepth 100000 in
theorem s_X9_isCovered_2 {K : SK} {d : Nat} {c : ct} {Q : ct → Int → Prop} (a1 : Int) (a2 : Int) (a3 : Int) (h : (ir a3) ∧ (6 ≤ a3 → Q c 1) ∧ (¬ (6 ≤ a3) → (ir ((c 108 3) + a3)) ∧ CI K d mX9_isDue [(2, 108), (0, (Int.tmod ((c 108 3) + a3) 6))] c (fun c4 r5 => (r5 = 0 → WI K (d + 1) mX9_isCovered 2 [(2, 108), (0, a1), (0, a2), (0, (a3 + 1))] [] c4 Q) ∧ (¬ (r5 = 0) → ir r5 ∧ (ir a3 ∧ ir a1) ∧ (a3 ≤ a1 → WI K (d + 1) mX9_isCovered 2 [(2, 108), (0, a1), (0, a2), (0, (a3 + 1))] [] c4 Q) ∧ (¬ (a3 ≤ a1) → (ir (6 - a3) ∧ ir a2) ∧ ((6 - a3) ≤ a2 → WI K (d + 1) mX9_isCovered 2 [(2, 108), (0, a1), (0, a2), (0, (a3 + 1))] [] c4 Q) ∧ (¬ ((6 - a3) ≤ a2) → Q c4 0)))))) : WI K (d + 1) mX9_isCovered 2 [(2, 108), (0, a1), (0, a2), (0, a3)] [] c Q := by
  refine R_iload_n (pc' := 3) dX9_isCovered_2 rfl rfl ?_
  refine R_bipush (pc' := 5) dX9_isCovered_3 (by decide) rfl ?_
  have hs2 := h.1
  have h := h.2
  refine R_icmp_ge (tgt := 45) (pc' := 8) dX9_isCovered_5 (by decide) hs2 (ir_l (by decide) (by decide)) rfl (fun hc1 => ?_) (fun hc1 => ?_)
  · have h := h.1 hc1
    refine R_iconst (pc' := 46) dX9_isCovered_45 rfl ?_
    exact Q_zret dX9_isCovered_46 rfl (Or.inr rfl) h
  · have h := h.2 hc1
    refine R_aload_n (pc' := 9) dX9_isCovered_8 rfl i108.1 rfl ?_
    refine R_aload_n (pc' := 10) dX9_isCovered_9 rfl i108.1 rfl ?_
    refine Q_getfi (J := 3) (pc' := 13) rfl dX9_isCovered_10 l_RX9_19 i108 fd9_3.1 fd9_3.2.1 fd9_3.2.2.1 rfl ?_
    refine R_iload_n (pc' := 14) dX9_isCovered_13 rfl rfl ?_
    refine R_iadd (pc' := 15) dX9_isCovered_14 rfl ?_
    refine R_bipush (pc' := 17) dX9_isCovered_15 (by decide) rfl ?_
    have hs3 := h.1
    have h := h.2
    refine R_irem (pc' := 18) dX9_isCovered_17 (by decide) hs3 (ir_l (by decide) (by decide)) rfl ?_
    refine Q_callVI (vs := [(0, (Int.tmod ((c 108 3) + a3) 6))]) (st := []) (pc' := 21) dX9_isCovered_18 l_RX9_370 i108 (by decide) rfl rfl (Nat.le_of_ble_eq_true rfl) rfl (Nat.zero_le _) (Nat.zero_le _) rfl ?_
    refine CI.mono h (fun c4 r5 h => ?_)
    by_cases hc6 : r5 = 0
    · have h := h.1 hc6
      refine R_eqS_if (tgt := 39) (pc' := 24) dX9_isCovered_21 (by decide) hc6 rfl ?_
      refine R_iinc (L' := [_, _, _, _]) (pc' := 42) dX9_isCovered_39 rfl (by decide) rfl rfl rfl ?_
      refine R_goto (tgt := 2) dX9_isCovered_42 (by decide) ?_
      exact WP_wk (wk_e (wk_e (wk_e (wk_e wk_n)))) h
    · have h := h.2 hc6
      refine R_eqD_if (tgt := 39) (pc' := 24) dX9_isCovered_21 (by decide) hc6 h.1 rfl ?_
      have h := h.2
      refine R_iload_n (pc' := 25) dX9_isCovered_24 rfl rfl ?_
      refine R_iload_n (pc' := 26) dX9_isCovered_25 rfl rfl ?_
      have hs8 := h.1
      have h := h.2
      refine R_icmp_le (tgt := 39) (pc' := 29) dX9_isCovered_26 (by decide) hs8.1 hs8.2 rfl (fun hc7 => ?_) (fun hc7 => ?_)
      · have h := h.1 hc7
        refine R_iinc (L' := [_, _, _, _]) (pc' := 42) dX9_isCovered_39 rfl (by decide) rfl rfl rfl ?_
        refine R_goto (tgt := 2) dX9_isCovered_42 (by decide) ?_
        exact WP_wk (wk_e (wk_e (wk_e (wk_e wk_n)))) h
      · have h := h.2 hc7
        refine R_bipush (pc' := 31) dX9_isCovered_29 (by decide) rfl ?_
        refine R_iload_n (pc' := 32) dX9_isCovered_31 rfl rfl ?_
        refine R_isub (pc' := 33) dX9_isCovered_32 rfl ?_
        refine R_iload_n (pc' := 34) dX9_isCovered_33 rfl rfl ?_
        have hs10 := h.1
        have h := h.2
        refine R_icmp_le (tgt := 39) (pc' := 37) dX9_isCovered_34 (by decide) hs10.1 hs10.2 rfl (fun hc9 => ?_) (fun hc9 => ?_)
        · have h := h.1 hc9
          refine R_iinc (L' := [_, _, _, _]) (pc' := 42) dX9_isCovered_39 rfl (by decide) rfl rfl rfl ?_
          refine R_goto (tgt := 2) dX9_isCovered_42 (by decide) ?_
          exact WP_wk (wk_e (wk_e (wk_e (wk_e wk_n)))) h
        · have h := h.2 hc9
          refine R_iconst (pc' := 38) dX9_isCovered_37 rfl ?_
          exact Q_zret dX9_isCovered_38 rfl (Or.inl rfl) h
theorem e_X9_isCovered {K : SK} {d : Nat} {c : ct} {Q : ct → Int → Prop} (a1 : Int) (a2 : Int) (h : WI K (d + 1) mX9_isCovered 0 [(2, 108), (0, a1), (0, a2), (9, 0)] [] c Q) : CI K (d + 1) mX9_isCovered [(2, 108), (0, a1), (0, a2)] c Q := CM_ofS (by decide) (Nat.le_of_ble_eq_true rfl) _ rfl h
set_option maxRecDepth 100000 in
theorem s_X9_steps_0 {K : SK} {d : Nat} {c : ct} {Q : ct → Int → Prop} (a1 : Int) (h : WI K (d + 1) mX9_steps 5 [(2, 108), (0, a1), (0, 99), (0, 1), (9, 0), (9, 0)] [] c Q) : WI K (d + 1) mX9_steps 0 [(2, 108), (0, a1), (9, 0), (9, 0), (9, 0), (9, 0)] [] c Q := by
  refine R_bipush (pc' := 2) dX9_steps_0 (by decide) rfl ?_
  refine R_istore_n (L' := [_, _, _, _, _, _]) (pc' := 3) dX9_steps_2 (by decide) rfl rfl rfl ?_
  refine R_iconst (pc' := 4) dX9_steps_3 rfl ?_
  refine R_istore_n (L' := [_, _, _, _, _, _]) (pc' := 5) dX9_steps_4 (by decide) rfl rfl rfl ?_
  exact WP_wk (wk_e (wk_e (wk_e (wk_e (wk_u (wk_u wk_n)))))) h
set_option maxRecDepth 100000 in
theorem s_X9_steps_5 {K : SK} {d : Nat} {c : ct} {Q : ct → Int → Prop} (a1 : Int) (a2 : Int) (a3 : Int) (h : (ir a3) ∧ (6 ≤ a3 → Q c a2) ∧ (¬ (6 ≤ a3) → WI K (d + 1) mX9_steps 14 [(2, 108), (0, a1), (0, a2), (0, a3), (0, 0), (9, 0)] [] c Q)) : WI K (d + 1) mX9_steps 5 [(2, 108), (0, a1), (0, a2), (0, a3), (9, 0), (9, 0)] [] c Q := by
  refine R_iload_n (pc' := 6) dX9_steps_5 rfl rfl ?_
  refine R_bipush (pc' := 8) dX9_steps_6 (by decide) rfl ?_
  have hs2 := h.1
  have h := h.2
  refine R_icmp_ge (tgt := 93) (pc' := 11) dX9_steps_8 (by decide) hs2 (ir_l (by decide) (by decide)) rfl (fun hc1 => ?_) (fun hc1 => ?_)
  · have h := h.1 hc1
    refine R_iload_n (pc' := 94) dX9_steps_93 rfl rfl ?_
    exact Q_iret dX9_steps_94 rfl h
  · have h := h.2 hc1
    refine R_iconst (pc' := 12) dX9_steps_11 rfl ?_
    refine R_istore (L' := [_, _, _, _, _, _]) (pc' := 14) dX9_steps_12 (by decide) rfl rfl rfl ?_
    exact WP_wk (wk_e (wk_e (wk_e (wk_e (wk_e (wk_u wk_n)))))) h
set_option maxRecDepth 100000 in
theorem s_X9_steps_14 {K : SK} {d : Nat} {c : ct} {Q : ct → Int → Prop} (a1 : Int) (a2 : Int) (a3 : Int) (a4 : Int) (h : (ir a4) ∧ (6 ≤ a4 → WI K (d + 1) mX9_steps 5 [(2, 108), (0, a1), (0, a2), (0, (a3 + 1)), (9, 0), (9, 0)] [] c Q) ∧ (¬ (6 ≤ a4) → (a1 = 0 → (a1 = 0 → CI K d mX9_isCovered [(2, 108), (0, a4), (0, a3)] c (fun c5 r6 => (r6 = 0 → WI K (d + 1) mX9_steps 14 [(2, 108), (0, a1), (0, a2), (0, a3), (0, (a4 + 1)), (9, 0)] [] c5 Q) ∧ (¬ (r6 = 0) → ir r6 ∧ (a4 = 0 → (ir a3 ∧ ir a2) ∧ (a2 ≤ a3 → WI K (d + 1) mX9_steps 14 [(2, 108), (0, a1), (0, a2), (0, a3), (0, (a4 + 1)), (9, 0)] [] c5 Q) ∧ (¬ (a2 ≤ a3) → WI K (d + 1) mX9_steps 14 [(2, 108), (0, a1), (0, a3), (0, a3), (0, (a4 + 1)), (9, 0)] [] c5 Q)) ∧ (¬ (a4 = 0) → ir a4 ∧ (ir ((2 * a3) + a4) ∧ ir a2) ∧ (a2 ≤ ((2 * a3) + a4) → WI K (d + 1) mX9_steps 14 [(2, 108), (0, a1), (0, a2), (0, a3), (0, (a4 + 1)), (9, 0)] [] c5 Q) ∧ (¬ (a2 ≤ ((2 * a3) + a4)) → WI K (d + 1) mX9_steps 14 [(2, 108), (0, a1), (0, ((2 * a3) + a4)), (0, a3), (0, (a4 + 1)), (9, 0)] [] c5 Q))))) ∧ (¬ (a1 = 0) → ir a1 ∧ CI K d mX9_isCovered [(2, 108), (0, a4), (0, a4)] c (fun c13 r14 => (r14 = 0 → WI K (d + 1) mX9_steps 14 [(2, 108), (0, a1), (0, a2), (0, a3), (0, (a4 + 1)), (9, 0)] [] c13 Q) ∧ (¬ (r14 = 0) → ir r14 ∧ (a4 = 0 → (ir a3 ∧ ir a2) ∧ (a2 ≤ a3 → WI K (d + 1) mX9_steps 14 [(2, 108), (0, a1), (0, a2), (0, a3), (0, (a4 + 1)), (9, 0)] [] c13 Q) ∧ (¬ (a2 ≤ a3) → WI K (d + 1) mX9_steps 14 [(2, 108), (0, a1), (0, a3), (0, a3), (0, (a4 + 1)), (9, 0)] [] c13 Q)) ∧ (¬ (a4 = 0) → ir a4 ∧ (ir ((2 * a3) + a4) ∧ ir a2) ∧ (a2 ≤ ((2 * a3) + a4) → WI K (d + 1) mX9_steps 14 [(2, 108), (0, a1), (0, a2), (0, a3), (0, (a4 + 1)), (9, 0)] [] c13 Q) ∧ (¬ (a2 ≤ ((2 * a3) + a4)) → WI K (d + 1) mX9_steps 14 [(2, 108), (0, a1), (0, ((2 * a3) + a4)), (0, a3), (0, (a4 + 1)), (9, 0)] [] c13 Q)))))) ∧ (¬ (a1 = 0) → ir a1 ∧ (a1 = 0 → CI K d mX9_isCovered [(2, 108), (0, a3), (0, a3)] c (fun c22 r23 => (r23 = 0 → WI K (d + 1) mX9_steps 14 [(2, 108), (0, a1), (0, a2), (0, a3), (0, (a4 + 1)), (9, 0)] [] c22 Q) ∧ (¬ (r23 = 0) → ir r23 ∧ (a4 = 0 → (ir a3 ∧ ir a2) ∧ (a2 ≤ a3 → WI K (d + 1) mX9_steps 14 [(2, 108), (0, a1), (0, a2), (0, a3), (0, (a4 + 1)), (9, 0)] [] c22 Q) ∧ (¬ (a2 ≤ a3) → WI K (d + 1) mX9_steps 14 [(2, 108), (0, a1), (0, a3), (0, a3), (0, (a4 + 1)), (9, 0)] [] c22 Q)) ∧ (¬ (a4 = 0) → ir a4 ∧ (ir ((2 * a3) + a4) ∧ ir a2) ∧ (a2 ≤ ((2 * a3) + a4) → WI K (d + 1) mX9_steps 14 [(2, 108), (0, a1), (0, a2), (0, a3), (0, (a4 + 1)), (9, 0)] [] c22 Q) ∧ (¬ (a2 ≤ ((2 * a3) + a4)) → WI K (d + 1) mX9_steps 14 [(2, 108), (0, a1), (0, ((2 * a3) + a4)), (0, a3), (0, (a4 + 1)), (9, 0)] [] c22 Q))))) ∧ (¬ (a1 = 0) → ir a1 ∧ CI K d mX9_isCovered [(2, 108), (0, a3), (0, a4)] c (fun c30 r31 => (r31 = 0 → WI K (d + 1) mX9_steps 14 [(2, 108), (0, a1), (0, a2), (0, a3), (0, (a4 + 1)), (9, 0)] [] c30 Q) ∧ (¬ (r31 = 0) → ir r31 ∧ (a4 = 0 → (ir a3 ∧ ir a2) ∧ (a2 ≤ a3 → WI K (d + 1) mX9_steps 14 [(2, 108), (0, a1), (0, a2), (0, a3), (0, (a4 + 1)), (9, 0)] [] c30 Q) ∧ (¬ (a2 ≤ a3) → WI K (d + 1) mX9_steps 14 [(2, 108), (0, a1), (0, a3), (0, a3), (0, (a4 + 1)), (9, 0)] [] c30 Q)) ∧ (¬ (a4 = 0) → ir a4 ∧ (ir ((2 * a3) + a4) ∧ ir a2) ∧ (a2 ≤ ((2 * a3) + a4) → WI K (d + 1) mX9_steps 14 [(2, 108), (0, a1), (0, a2), (0, a3), (0, (a4 + 1)), (9, 0)] [] c30 Q) ∧ (¬ (a2 ≤ ((2 * a3) + a4)) → WI K (d + 1) mX9_steps 14 [(2, 108), (0, a1), (0, ((2 * a3) + a4)), (0, a3), (0, (a4 + 1)), (9, 0)] [] c30 Q)))))))) : WI K (d + 1) mX9_steps 14 [(2, 108), (0, a1), (0, a2), (0, a3), (0, a4), (9, 0)] [] c Q := by
  refine R_iload (pc' := 16) dX9_steps_14 rfl rfl ?_
  refine R_bipush (pc' := 18) dX9_steps_16 (by decide) rfl ?_
  have hs2 := h.1
  have h := h.2
  refine R_icmp_ge (tgt := 87) (pc' := 21) dX9_steps_18 (by decide) hs2 (ir_l (by decide) (by decide)) rfl (fun hc1 => ?_) (fun hc1 => ?_)
  · have h := h.1 hc1
    refine R_iinc (L' := [_, _, _, _, _, _]) (pc' := 90) dX9_steps_87 rfl (by decide) rfl rfl rfl ?_
    refine R_goto (tgt := 5) dX9_steps_90 (by decide) ?_
    exact WP_wk (wk_e (wk_e (wk_e (wk_e (wk_u (wk_u wk_n)))))) h
  · have h := h.2 hc1
    refine R_aload_n (pc' := 22) dX9_steps_21 rfl i108.1 rfl ?_
    refine R_iload_n (pc' := 23) dX9_steps_22 rfl rfl ?_
    by_cases hc3 : a1 = 0
    · have h := h.1 hc3
      refine R_eqS_if (tgt := 30) (pc' := 26) dX9_steps_23 (by decide) hc3 rfl ?_
      refine R_iload (pc' := 32) dX9_steps_30 rfl rfl ?_
      refine R_iload_n (pc' := 33) dX9_steps_32 rfl rfl ?_
      by_cases hc4 : a1 = 0
      · have h := h.1 hc4
        refine R_eqS_if (tgt := 41) (pc' := 36) dX9_steps_33 (by decide) hc4 rfl ?_
        refine R_iload_n (pc' := 42) dX9_steps_41 rfl rfl ?_
        refine Q_callVI (vs := [(0, a4), (0, a3)]) (st := []) (pc' := 45) dX9_steps_42 l_RX9_373 i108 (by decide) rfl rfl (Nat.le_of_ble_eq_true rfl) rfl (Nat.zero_le _) (Nat.zero_le _) rfl ?_
        refine CI.mono h (fun c5 r6 h => ?_)
        by_cases hc7 : r6 = 0
        · have h := h.1 hc7
          refine R_neS_if (tgt := 51) (pc' := 48) dX9_steps_45 (by decide) hc7 rfl ?_
          refine R_goto (tgt := 81) dX9_steps_48 (by decide) ?_
          refine R_iinc (L' := [_, _, _, _, _, _]) (pc' := 84) dX9_steps_81 rfl (by decide) rfl rfl rfl ?_
          refine R_goto (tgt := 14) dX9_steps_84 (by decide) ?_
          exact WP_wk (wk_e (wk_e (wk_e (wk_e (wk_e (wk_u wk_n)))))) h
        · have h := h.2 hc7
          refine R_neD_if (tgt := 51) (pc' := 48) dX9_steps_45 (by decide) hc7 h.1 rfl ?_
          have h := h.2
          refine R_iload (pc' := 53) dX9_steps_51 rfl rfl ?_
          by_cases hc8 : a4 = 0
          · have h := h.1 hc8
            refine R_neS_if (tgt := 60) (pc' := 56) dX9_steps_53 (by decide) hc8 rfl ?_
            refine R_iload_n (pc' := 57) dX9_steps_56 rfl rfl ?_
            refine R_goto (tgt := 66) dX9_steps_57 (by decide) ?_
            refine R_istore (L' := [_, _, _, _, _, _]) (pc' := 68) dX9_steps_66 (by decide) rfl rfl rfl ?_
            refine R_iload (pc' := 70) dX9_steps_68 rfl rfl ?_
            refine R_iload_n (pc' := 71) dX9_steps_70 rfl rfl ?_
            have hs10 := h.1
            have h := h.2
            refine R_icmp_ge (tgt := 79) (pc' := 74) dX9_steps_71 (by decide) hs10.1 hs10.2 rfl (fun hc9 => ?_) (fun hc9 => ?_)
            · have h := h.1 hc9
              refine R_iload_n (pc' := 80) dX9_steps_79 rfl rfl ?_
              refine R_istore_n (L' := [_, _, _, _, _, _]) (pc' := 81) dX9_steps_80 (by decide) rfl rfl rfl ?_
              refine R_iinc (L' := [_, _, _, _, _, _]) (pc' := 84) dX9_steps_81 rfl (by decide) rfl rfl rfl ?_
              refine R_goto (tgt := 14) dX9_steps_84 (by decide) ?_
              exact WP_wk (wk_e (wk_e (wk_e (wk_e (wk_e (wk_u wk_n)))))) h
            · have h := h.2 hc9
              refine R_iload (pc' := 76) dX9_steps_74 rfl rfl ?_
              refine R_goto (tgt := 80) dX9_steps_76 (by decide) ?_
              refine R_istore_n (L' := [_, _, _, _, _, _]) (pc' := 81) dX9_steps_80 (by decide) rfl rfl rfl ?_
              refine R_iinc (L' := [_, _, _, _, _, _]) (pc' := 84) dX9_steps_81 rfl (by decide) rfl rfl rfl ?_
              refine R_goto (tgt := 14) dX9_steps_84 (by decide) ?_
              exact WP_wk (wk_e (wk_e (wk_e (wk_e (wk_e (wk_u wk_n)))))) h
          · have h := h.2 hc8
            refine R_neD_if (tgt := 60) (pc' := 56) dX9_steps_53 (by decide) hc8 h.1 rfl ?_
            have h := h.2
            refine R_iconst (pc' := 61) dX9_steps_60 rfl ?_
            refine R_iload_n (pc' := 62) dX9_steps_61 rfl rfl ?_
            refine R_imul (pc' := 63) dX9_steps_62 rfl ?_
            refine R_iload (pc' := 65) dX9_steps_63 rfl rfl ?_
            refine R_iadd (pc' := 66) dX9_steps_65 rfl ?_
            refine R_istore (L' := [_, _, _, _, _, _]) (pc' := 68) dX9_steps_66 (by decide) rfl rfl rfl ?_
            refine R_iload (pc' := 70) dX9_steps_68 rfl rfl ?_
            refine R_iload_n (pc' := 71) dX9_steps_70 rfl rfl ?_
            have hs12 := h.1
            have h := h.2
            refine R_icmp_ge (tgt := 79) (pc' := 74) dX9_steps_71 (by decide) hs12.1 hs12.2 rfl (fun hc11 => ?_) (fun hc11 => ?_)
            · have h := h.1 hc11
              refine R_iload_n (pc' := 80) dX9_steps_79 rfl rfl ?_
              refine R_istore_n (L' := [_, _, _, _, _, _]) (pc' := 81) dX9_steps_80 (by decide) rfl rfl rfl ?_
              refine R_iinc (L' := [_, _, _, _, _, _]) (pc' := 84) dX9_steps_81 rfl (by decide) rfl rfl rfl ?_
              refine R_goto (tgt := 14) dX9_steps_84 (by decide) ?_
              exact WP_wk (wk_e (wk_e (wk_e (wk_e (wk_e (wk_u wk_n)))))) h
            · have h := h.2 hc11
              refine R_iload (pc' := 76) dX9_steps_74 rfl rfl ?_
              refine R_goto (tgt := 80) dX9_steps_76 (by decide) ?_
              refine R_istore_n (L' := [_, _, _, _, _, _]) (pc' := 81) dX9_steps_80 (by decide) rfl rfl rfl ?_
              refine R_iinc (L' := [_, _, _, _, _, _]) (pc' := 84) dX9_steps_81 rfl (by decide) rfl rfl rfl ?_
              refine R_goto (tgt := 14) dX9_steps_84 (by decide) ?_
              exact WP_wk (wk_e (wk_e (wk_e (wk_e (wk_e (wk_u wk_n)))))) h
      · have h := h.2 hc4
        refine R_eqD_if (tgt := 41) (pc' := 36) dX9_steps_33 (by decide) hc4 h.1 rfl ?_
        have h := h.2
        refine R_iload (pc' := 38) dX9_steps_36 rfl rfl ?_
        refine R_goto (tgt := 42) dX9_steps_38 (by decide) ?_
        refine Q_callVI (vs := [(0, a4), (0, a4)]) (st := []) (pc' := 45) dX9_steps_42 l_RX9_373 i108 (by decide) rfl rfl (Nat.le_of_ble_eq_true rfl) rfl (Nat.zero_le _) (Nat.zero_le _) rfl ?_
        refine CI.mono h (fun c13 r14 h => ?_)
        by_cases hc15 : r14 = 0
        · have h := h.1 hc15
          refine R_neS_if (tgt := 51) (pc' := 48) dX9_steps_45 (by decide) hc15 rfl ?_
          refine R_goto (tgt := 81) dX9_steps_48 (by decide) ?_
          refine R_iinc (L' := [_, _, _, _, _, _]) (pc' := 84) dX9_steps_81 rfl (by decide) rfl rfl rfl ?_
          refine R_goto (tgt := 14) dX9_steps_84 (by decide) ?_
          exact WP_wk (wk_e (wk_e (wk_e (wk_e (wk_e (wk_u wk_n)))))) h
        · have h := h.2 hc15
          refine R_neD_if (tgt := 51) (pc' := 48) dX9_steps_45 (by decide) hc15 h.1 rfl ?_
          have h := h.2
          refine R_iload (pc' := 53) dX9_steps_51 rfl rfl ?_
          by_cases hc16 : a4 = 0
          · have h := h.1 hc16
            refine R_neS_if (tgt := 60) (pc' := 56) dX9_steps_53 (by decide) hc16 rfl ?_
            refine R_iload_n (pc' := 57) dX9_steps_56 rfl rfl ?_
            refine R_goto (tgt := 66) dX9_steps_57 (by decide) ?_
            refine R_istore (L' := [_, _, _, _, _, _]) (pc' := 68) dX9_steps_66 (by decide) rfl rfl rfl ?_
            refine R_iload (pc' := 70) dX9_steps_68 rfl rfl ?_
            refine R_iload_n (pc' := 71) dX9_steps_70 rfl rfl ?_
            have hs18 := h.1
            have h := h.2
            refine R_icmp_ge (tgt := 79) (pc' := 74) dX9_steps_71 (by decide) hs18.1 hs18.2 rfl (fun hc17 => ?_) (fun hc17 => ?_)
            · have h := h.1 hc17
              refine R_iload_n (pc' := 80) dX9_steps_79 rfl rfl ?_
              refine R_istore_n (L' := [_, _, _, _, _, _]) (pc' := 81) dX9_steps_80 (by decide) rfl rfl rfl ?_
              refine R_iinc (L' := [_, _, _, _, _, _]) (pc' := 84) dX9_steps_81 rfl (by decide) rfl rfl rfl ?_
              refine R_goto (tgt := 14) dX9_steps_84 (by decide) ?_
              exact WP_wk (wk_e (wk_e (wk_e (wk_e (wk_e (wk_u wk_n)))))) h
            · have h := h.2 hc17
              refine R_iload (pc' := 76) dX9_steps_74 rfl rfl ?_
              refine R_goto (tgt := 80) dX9_steps_76 (by decide) ?_
              refine R_istore_n (L' := [_, _, _, _, _, _]) (pc' := 81) dX9_steps_80 (by decide) rfl rfl rfl ?_
              refine R_iinc (L' := [_, _, _, _, _, _]) (pc' := 84) dX9_steps_81 rfl (by decide) rfl rfl rfl ?_
              refine R_goto (tgt := 14) dX9_steps_84 (by decide) ?_
              exact WP_wk (wk_e (wk_e (wk_e (wk_e (wk_e (wk_u wk_n)))))) h
          · have h := h.2 hc16
            refine R_neD_if (tgt := 60) (pc' := 56) dX9_steps_53 (by decide) hc16 h.1 rfl ?_
            have h := h.2
            refine R_iconst (pc' := 61) dX9_steps_60 rfl ?_
            refine R_iload_n (pc' := 62) dX9_steps_61 rfl rfl ?_
            refine R_imul (pc' := 63) dX9_steps_62 rfl ?_
            refine R_iload (pc' := 65) dX9_steps_63 rfl rfl ?_
            refine R_iadd (pc' := 66) dX9_steps_65 rfl ?_
            refine R_istore (L' := [_, _, _, _, _, _]) (pc' := 68) dX9_steps_66 (by decide) rfl rfl rfl ?_
            refine R_iload (pc' := 70) dX9_steps_68 rfl rfl ?_
            refine R_iload_n (pc' := 71) dX9_steps_70 rfl rfl ?_
            have hs20 := h.1
            have h := h.2
            refine R_icmp_ge (tgt := 79) (pc' := 74) dX9_steps_71 (by decide) hs20.1 hs20.2 rfl (fun hc19 => ?_) (fun hc19 => ?_)
            · have h := h.1 hc19
              refine R_iload_n (pc' := 80) dX9_steps_79 rfl rfl ?_
              refine R_istore_n (L' := [_, _, _, _, _, _]) (pc' := 81) dX9_steps_80 (by decide) rfl rfl rfl ?_
              refine R_iinc (L' := [_, _, _, _, _, _]) (pc' := 84) dX9_steps_81 rfl (by decide) rfl rfl rfl ?_
              refine R_goto (tgt := 14) dX9_steps_84 (by decide) ?_
              exact WP_wk (wk_e (wk_e (wk_e (wk_e (wk_e (wk_u wk_n)))))) h
            · have h := h.2 hc19
              refine R_iload (pc' := 76) dX9_steps_74 rfl rfl ?_
              refine R_goto (tgt := 80) dX9_steps_76 (by decide) ?_
              refine R_istore_n (L' := [_, _, _, _, _, _]) (pc' := 81) dX9_steps_80 (by decide) rfl rfl rfl ?_
              refine R_iinc (L' := [_, _, _, _, _, _]) (pc' := 84) dX9_steps_81 rfl (by decide) rfl rfl rfl ?_
              refine R_goto (tgt := 14) dX9_steps_84 (by decide) ?_
              exact WP_wk (wk_e (wk_e (wk_e (wk_e (wk_e (wk_u wk_n)))))) h
    · have h := h.2 hc3
      refine R_eqD_if (tgt := 30) (pc' := 26) dX9_steps_23 (by decide) hc3 h.1 rfl ?_
      have h := h.2
      refine R_iload_n (pc' := 27) dX9_steps_26 rfl rfl ?_
      refine R_goto (tgt := 32) dX9_steps_27 (by decide) ?_
      refine R_iload_n (pc' := 33) dX9_steps_32 rfl rfl ?_
      by_cases hc21 : a1 = 0
      · have h := h.1 hc21
        refine R_eqS_if (tgt := 41) (pc' := 36) dX9_steps_33 (by decide) hc21 rfl ?_
        refine R_iload_n (pc' := 42) dX9_steps_41 rfl rfl ?_
        refine Q_callVI (vs := [(0, a3), (0, a3)]) (st := []) (pc' := 45) dX9_steps_42 l_RX9_373 i108 (by decide) rfl rfl (Nat.le_of_ble_eq_true rfl) rfl (Nat.zero_le _) (Nat.zero_le _) rfl ?_
        refine CI.mono h (fun c22 r23 h => ?_)
        by_cases hc24 : r23 = 0
        · have h := h.1 hc24
          refine R_neS_if (tgt := 51) (pc' := 48) dX9_steps_45 (by decide) hc24 rfl ?_
          refine R_goto (tgt := 81) dX9_steps_48 (by decide) ?_
          refine R_iinc (L' := [_, _, _, _, _, _]) (pc' := 84) dX9_steps_81 rfl (by decide) rfl rfl rfl ?_
          refine R_goto (tgt := 14) dX9_steps_84 (by decide) ?_
          exact WP_wk (wk_e (wk_e (wk_e (wk_e (wk_e (wk_u wk_n)))))) h
        · have h := h.2 hc24
          refine R_neD_if (tgt := 51) (pc' := 48) dX9_steps_45 (by decide) hc24 h.1 rfl ?_
          have h := h.2
          refine R_iload (pc' := 53) dX9_steps_51 rfl rfl ?_
          by_cases hc25 : a4 = 0
          · have h := h.1 hc25
            refine R_neS_if (tgt := 60) (pc' := 56) dX9_steps_53 (by decide) hc25 rfl ?_
            refine R_iload_n (pc' := 57) dX9_steps_56 rfl rfl ?_
            refine R_goto (tgt := 66) dX9_steps_57 (by decide) ?_
            refine R_istore (L' := [_, _, _, _, _, _]) (pc' := 68) dX9_steps_66 (by decide) rfl rfl rfl ?_
            refine R_iload (pc' := 70) dX9_steps_68 rfl rfl ?_
            refine R_iload_n (pc' := 71) dX9_steps_70 rfl rfl ?_
            have hs27 := h.1
            have h := h.2
            refine R_icmp_ge (tgt := 79) (pc' := 74) dX9_steps_71 (by decide) hs27.1 hs27.2 rfl (fun hc26 => ?_) (fun hc26 => ?_)
            · have h := h.1 hc26
              refine R_iload_n (pc' := 80) dX9_steps_79 rfl rfl ?_
              refine R_istore_n (L' := [_, _, _, _, _, _]) (pc' := 81) dX9_steps_80 (by decide) rfl rfl rfl ?_
              refine R_iinc (L' := [_, _, _, _, _, _]) (pc' := 84) dX9_steps_81 rfl (by decide) rfl rfl rfl ?_
              refine R_goto (tgt := 14) dX9_steps_84 (by decide) ?_
              exact WP_wk (wk_e (wk_e (wk_e (wk_e (wk_e (wk_u wk_n)))))) h
            · have h := h.2 hc26
              refine R_iload (pc' := 76) dX9_steps_74 rfl rfl ?_
              refine R_goto (tgt := 80) dX9_steps_76 (by decide) ?_
              refine R_istore_n (L' := [_, _, _, _, _, _]) (pc' := 81) dX9_steps_80 (by decide) rfl rfl rfl ?_
              refine R_iinc (L' := [_, _, _, _, _, _]) (pc' := 84) dX9_steps_81 rfl (by decide) rfl rfl rfl ?_
              refine R_goto (tgt := 14) dX9_steps_84 (by decide) ?_
              exact WP_wk (wk_e (wk_e (wk_e (wk_e (wk_e (wk_u wk_n)))))) h
          · have h := h.2 hc25
            refine R_neD_if (tgt := 60) (pc' := 56) dX9_steps_53 (by decide) hc25 h.1 rfl ?_
            have h := h.2
            refine R_iconst (pc' := 61) dX9_steps_60 rfl ?_
            refine R_iload_n (pc' := 62) dX9_steps_61 rfl rfl ?_
            refine R_imul (pc' := 63) dX9_steps_62 rfl ?_
            refine R_iload (pc' := 65) dX9_steps_63 rfl rfl ?_
            refine R_iadd (pc' := 66) dX9_steps_65 rfl ?_
            refine R_istore (L' := [_, _, _, _, _, _]) (pc' := 68) dX9_steps_66 (by decide) rfl rfl rfl ?_
            refine R_iload (pc' := 70) dX9_steps_68 rfl rfl ?_
            refine R_iload_n (pc' := 71) dX9_steps_70 rfl rfl ?_
            have hs29 := h.1
            have h := h.2
            refine R_icmp_ge (tgt := 79) (pc' := 74) dX9_steps_71 (by decide) hs29.1 hs29.2 rfl (fun hc28 => ?_) (fun hc28 => ?_)
            · have h := h.1 hc28
              refine R_iload_n (pc' := 80) dX9_steps_79 rfl rfl ?_
              refine R_istore_n (L' := [_, _, _, _, _, _]) (pc' := 81) dX9_steps_80 (by decide) rfl rfl rfl ?_
              refine R_iinc (L' := [_, _, _, _, _, _]) (pc' := 84) dX9_steps_81 rfl (by decide) rfl rfl rfl ?_
              refine R_goto (tgt := 14) dX9_steps_84 (by decide) ?_
              exact WP_wk (wk_e (wk_e (wk_e (wk_e (wk_e (wk_u wk_n)))))) h
            · have h := h.2 hc28
              refine R_iload (pc' := 76) dX9_steps_74 rfl rfl ?_
              refine R_goto (tgt := 80) dX9_steps_76 (by decide) ?_
              refine R_istore_n (L' := [_, _, _, _, _, _]) (pc' := 81) dX9_steps_80 (by decide) rfl rfl rfl ?_
              refine R_iinc (L' := [_, _, _, _, _, _]) (pc' := 84) dX9_steps_81 rfl (by decide) rfl rfl rfl ?_
              refine R_goto (tgt := 14) dX9_steps_84 (by decide) ?_
              exact WP_wk (wk_e (wk_e (wk_e (wk_e (wk_e (wk_u wk_n)))))) h
      · have h := h.2 hc21
        refine R_eqD_if (tgt := 41) (pc' := 36) dX9_steps_33 (by decide) hc21 h.1 rfl ?_
        have h := h.2
        refine R_iload (pc' := 38) dX9_steps_36 rfl rfl ?_
        refine R_goto (tgt := 42) dX9_steps_38 (by decide) ?_
        refine Q_callVI (vs := [(0, a3), (0, a4)]) (st := []) (pc' := 45) dX9_steps_42 l_RX9_373 i108 (by decide) rfl rfl (Nat.le_of_ble_eq_true rfl) rfl (Nat.zero_le _) (Nat.zero_le _) rfl ?_
        refine CI.mono h (fun c30 r31 h => ?_)
        by_cases hc32 : r31 = 0
        · have h := h.1 hc32
          refine R_neS_if (tgt := 51) (pc' := 48) dX9_steps_45 (by decide) hc32 rfl ?_
          refine R_goto (tgt := 81) dX9_steps_48 (by decide) ?_
          refine R_iinc (L' := [_, _, _, _, _, _]) (pc' := 84) dX9_steps_81 rfl (by decide) rfl rfl rfl ?_
          refine R_goto (tgt := 14) dX9_steps_84 (by decide) ?_
          exact WP_wk (wk_e (wk_e (wk_e (wk_e (wk_e (wk_u wk_n)))))) h
        · have h := h.2 hc32
          refine R_neD_if (tgt := 51) (pc' := 48) dX9_steps_45 (by decide) hc32 h.1 rfl ?_
          have h := h.2
          refine R_iload (pc' := 53) dX9_steps_51 rfl rfl ?_
          by_cases hc33 : a4 = 0
          · have h := h.1 hc33
            refine R_neS_if (tgt := 60) (pc' := 56) dX9_steps_53 (by decide) hc33 rfl ?_
            refine R_iload_n (pc' := 57) dX9_steps_56 rfl rfl ?_
            refine R_goto (tgt := 66) dX9_steps_57 (by decide) ?_
            refine R_istore (L' := [_, _, _, _, _, _]) (pc' := 68) dX9_steps_66 (by decide) rfl rfl rfl ?_
            refine R_iload (pc' := 70) dX9_steps_68 rfl rfl ?_
            refine R_iload_n (pc' := 71) dX9_steps_70 rfl rfl ?_
            have hs35 := h.1
            have h := h.2
            refine R_icmp_ge (tgt := 79) (pc' := 74) dX9_steps_71 (by decide) hs35.1 hs35.2 rfl (fun hc34 => ?_) (fun hc34 => ?_)
            · have h := h.1 hc34
              refine R_iload_n (pc' := 80) dX9_steps_79 rfl rfl ?_
              refine R_istore_n (L' := [_, _, _, _, _, _]) (pc' := 81) dX9_steps_80 (by decide) rfl rfl rfl ?_
              refine R_iinc (L' := [_, _, _, _, _, _]) (pc' := 84) dX9_steps_81 rfl (by decide) rfl rfl rfl ?_
              refine R_goto (tgt := 14) dX9_steps_84 (by decide) ?_
              exact WP_wk (wk_e (wk_e (wk_e (wk_e (wk_e (wk_u wk_n)))))) h
            · have h := h.2 hc34
              refine R_iload (pc' := 76) dX9_steps_74 rfl rfl ?_
              refine R_goto (tgt := 80) dX9_steps_76 (by decide) ?_
              refine R_istore_n (L' := [_, _, _, _, _, _]) (pc' := 81) dX9_steps_80 (by decide) rfl rfl rfl ?_
              refine R_iinc (L' := [_, _, _, _, _, _]) (pc' := 84) dX9_steps_81 rfl (by decide) rfl rfl rfl ?_
              refine R_goto (tgt := 14) dX9_steps_84 (by decide) ?_
              exact WP_wk (wk_e (wk_e (wk_e (wk_e (wk_e (wk_u wk_n)))))) h
          · have h := h.2 hc33
            refine R_neD_if (tgt := 60) (pc' := 56) dX9_steps_53 (by decide) hc33 h.1 rfl ?_
            have h := h.2
            refine R_iconst (pc' := 61) dX9_steps_60 rfl ?_
            refine R_iload_n (pc' := 62) dX9_steps_61 rfl rfl ?_
            refine R_imul (pc' := 63) dX9_steps_62 rfl ?_
            refine R_iload (pc' := 65) dX9_steps_63 rfl rfl ?_
            refine R_iadd (pc' := 66) dX9_steps_65 rfl ?_
            refine R_istore (L' := [_, _, _, _, _, _]) (pc' := 68) dX9_steps_66 (by decide) rfl rfl rfl ?_
            refine R_iload (pc' := 70) dX9_steps_68 rfl rfl ?_
            refine R_iload_n (pc' := 71) dX9_steps_70 rfl rfl ?_
            have hs37 := h.1
            have h := h.2
            refine R_icmp_ge (tgt := 79) (pc' := 74) dX9_steps_71 (by decide) hs37.1 hs37.2 rfl (fun hc36 => ?_) (fun hc36 => ?_)
            · have h := h.1 hc36
              refine R_iload_n (pc' := 80) dX9_steps_79 rfl rfl ?_
              refine R_istore_n (L' := [_, _, _, _, _, _]) (pc' := 81) dX9_steps_80 (by decide) rfl rfl rfl ?_
              refine R_iinc (L' := [_, _, _, _, _, _]) (pc' := 84) dX9_steps_81 rfl (by decide) rfl rfl rfl ?_
              refine R_goto (tgt := 14) dX9_steps_84 (by decide) ?_
              exact WP_wk (wk_e (wk_e (wk_e (wk_e (wk_e (wk_u wk_n)))))) h
            · have h := h.2 hc36
              refine R_iload (pc' := 76) dX9_steps_74 rfl rfl ?_
              refine R_goto (tgt := 80) dX9_steps_76 (by decide) ?_
              refine R_istore_n (L' := [_, _, _, _, _, _]) (pc' := 81) dX9_steps_80 (by decide) rfl rfl rfl ?_
              refine R_iinc (L' := [_, _, _, _, _, _]) (pc' := 84) dX9_steps_81 rfl (by decide) rfl rfl rfl ?_
              refine R_goto (tgt := 14) dX9_steps_84 (by decide) ?_
              exact WP_wk (wk_e (wk_e (wk_e (wk_e (wk_e (wk_u wk_n)))))) h
theorem e_X9_steps {K : SK} {d : Nat} {c : ct} {Q : ct → Int → Prop} (a1 : Int) (h : WI K (d + 1) mX9_steps 0 [(2, 108), (0, a1), (9, 0), (9, 0), (9, 0), (9, 0)] [] c Q) : CI K (d + 1) mX9_steps [(2, 108), (0, a1)] c Q := CM_ofS (by decide) (Nat.le_of_ble_eq_true rfl) _ rfl h
set_option maxRecDepth 100000 in
theorem s_X9_round_0 {K : SK} {d : Nat} {c : ct} {Q : ct → Int → Prop}  (h : CI K d mX9_isCovered [(2, 108), (0, 0), (0, 0)] c (fun c1 r2 => (r2 = 0 → CI K d mX9_steps [(2, 108), (0, 1)] c1 (fun c4 r5 => CI K d mX9_steps [(2, 108), (0, 0)] c4 (fun c6 r7 => CI K d mX9_least [(2, 108), (0, r5), (0, r7)] c6 (fun c8 r9 => Q c8 r9)))) ∧ (¬ (r2 = 0) → ir r2 ∧ Q c1 0))) : WI K (d + 1) mX9_round 0 [(2, 108)] [] c Q := by
  refine R_aload_n (pc' := 1) dX9_round_0 rfl i108.1 rfl ?_
  refine R_iconst (pc' := 2) dX9_round_1 rfl ?_
  refine R_iconst (pc' := 3) dX9_round_2 rfl ?_
  refine Q_callVI (vs := [(0, 0), (0, 0)]) (st := []) (pc' := 6) dX9_round_3 l_RX9_373 i108 (by decide) rfl rfl (Nat.le_of_ble_eq_true rfl) rfl (Nat.zero_le _) (Nat.zero_le _) rfl ?_
  refine CI.mono h (fun c1 r2 h => ?_)
  by_cases hc3 : r2 = 0
  · have h := h.1 hc3
    refine R_eqS_if (tgt := 13) (pc' := 9) dX9_round_6 (by decide) hc3 rfl ?_
    refine R_aload_n (pc' := 14) dX9_round_13 rfl i108.1 rfl ?_
    refine R_aload_n (pc' := 15) dX9_round_14 rfl i108.1 rfl ?_
    refine R_iconst (pc' := 16) dX9_round_15 rfl ?_
    refine Q_callVI (vs := [(0, 1)]) (st := [(2, 108)]) (pc' := 19) dX9_round_16 l_RX9_376 i108 (by decide) rfl rfl (Nat.le_of_ble_eq_true rfl) rfl (Nat.zero_le _) (Nat.zero_le _) rfl ?_
    refine CI.mono h (fun c4 r5 h => ?_)
    refine R_aload_n (pc' := 20) dX9_round_19 rfl i108.1 rfl ?_
    refine R_iconst (pc' := 21) dX9_round_20 rfl ?_
    refine Q_callVI (vs := [(0, 0)]) (st := [(0, r5), (2, 108)]) (pc' := 24) dX9_round_21 l_RX9_376 i108 (by decide) rfl rfl (Nat.le_of_ble_eq_true rfl) rfl (Nat.zero_le _) (Nat.zero_le _) rfl ?_
    refine CI.mono h (fun c6 r7 h => ?_)
    refine Q_callVI (vs := [(0, r5), (0, r7)]) (st := []) (pc' := 27) dX9_round_24 l_RX9_380 i108 (by decide) rfl rfl (Nat.le_of_ble_eq_true rfl) rfl (Nat.zero_le _) (Nat.zero_le _) rfl ?_
    refine CI.mono h (fun c8 r9 h => ?_)
    exact Q_iret dX9_round_27 rfl h
  · have h := h.2 hc3
    refine R_eqD_if (tgt := 13) (pc' := 9) dX9_round_6 (by decide) hc3 h.1 rfl ?_
    have h := h.2
    refine R_iconst (pc' := 10) dX9_round_9 rfl ?_
    refine R_goto (tgt := 27) dX9_round_10 (by decide) ?_
    exact Q_iret dX9_round_27 rfl h
theorem e_X9_round {K : SK} {d : Nat} {c : ct} {Q : ct → Int → Prop}  (h : WI K (d + 1) mX9_round 0 [(2, 108)] [] c Q) : CI K (d + 1) mX9_round [(2, 108)] c Q := CM_ofS (by decide) (Nat.le_of_ble_eq_true rfl) _ rfl h
set_option maxRecDepth 100000 in
theorem s_X9_toward_0 {K : SK} {d : Nat} {c : ct} {Q : ct → Int → Prop}  (h : CI K d mX9_isCovered [(2, 108), (0, 0), (0, 0)] c (fun c1 r2 => (r2 = 0 → CI K d mX9_steps [(2, 108), (0, 1)] c1 (fun c4 r5 => CI K d mX9_steps [(2, 108), (0, 0)] c4 (fun c6 r7 => (ir r5 ∧ ir r7) ∧ (r7 < r5 → Q c6 2) ∧ (¬ (r7 < r5) → Q c6 1)))) ∧ (¬ (r2 = 0) → ir r2 ∧ Q c1 0))) : WI K (d + 1) mX9_toward 0 [(2, 108)] [] c Q := by
  refine R_aload_n (pc' := 1) dX9_toward_0 rfl i108.1 rfl ?_
  refine R_iconst (pc' := 2) dX9_toward_1 rfl ?_
  refine R_iconst (pc' := 3) dX9_toward_2 rfl ?_
  refine Q_callVI (vs := [(0, 0), (0, 0)]) (st := []) (pc' := 6) dX9_toward_3 l_RX9_373 i108 (by decide) rfl rfl (Nat.le_of_ble_eq_true rfl) rfl (Nat.zero_le _) (Nat.zero_le _) rfl ?_
  refine CI.mono h (fun c1 r2 h => ?_)
  by_cases hc3 : r2 = 0
  · have h := h.1 hc3
    refine R_eqS_if (tgt := 13) (pc' := 9) dX9_toward_6 (by decide) hc3 rfl ?_
    refine R_aload_n (pc' := 14) dX9_toward_13 rfl i108.1 rfl ?_
    refine R_iconst (pc' := 15) dX9_toward_14 rfl ?_
    refine Q_callVI (vs := [(0, 1)]) (st := []) (pc' := 18) dX9_toward_15 l_RX9_376 i108 (by decide) rfl rfl (Nat.le_of_ble_eq_true rfl) rfl (Nat.zero_le _) (Nat.zero_le _) rfl ?_
    refine CI.mono h (fun c4 r5 h => ?_)
    refine R_aload_n (pc' := 19) dX9_toward_18 rfl i108.1 rfl ?_
    refine R_iconst (pc' := 20) dX9_toward_19 rfl ?_
    refine Q_callVI (vs := [(0, 0)]) (st := [(0, r5)]) (pc' := 23) dX9_toward_20 l_RX9_376 i108 (by decide) rfl rfl (Nat.le_of_ble_eq_true rfl) rfl (Nat.zero_le _) (Nat.zero_le _) rfl ?_
    refine CI.mono h (fun c6 r7 h => ?_)
    have hs9 := h.1
    have h := h.2
    refine R_icmp_gt (tgt := 30) (pc' := 26) dX9_toward_23 (by decide) hs9.1 hs9.2 rfl (fun hc8 => ?_) (fun hc8 => ?_)
    · have h := h.1 hc8
      refine R_iconst (pc' := 31) dX9_toward_30 rfl ?_
      exact Q_iret dX9_toward_31 rfl h
    · have h := h.2 hc8
      refine R_iconst (pc' := 27) dX9_toward_26 rfl ?_
      refine R_goto (tgt := 31) dX9_toward_27 (by decide) ?_
      exact Q_iret dX9_toward_31 rfl h
  · have h := h.2 hc3
    refine R_eqD_if (tgt := 13) (pc' := 9) dX9_toward_6 (by decide) hc3 h.1 rfl ?_
    have h := h.2
    refine R_iconst (pc' := 10) dX9_toward_9 rfl ?_
    refine R_goto (tgt := 31) dX9_toward_10 (by decide) ?_
    exact Q_iret dX9_toward_31 rfl h
theorem e_X9_toward {K : SK} {d : Nat} {c : ct} {Q : ct → Int → Prop}  (h : WI K (d + 1) mX9_toward 0 [(2, 108)] [] c Q) : CI K (d + 1) mX9_toward [(2, 108)] c Q := CM_ofS (by decide) (Nat.le_of_ble_eq_true rfl) _ rfl h
set_option maxRecDepth 100000 in
theorem s_X9_told_0 {K : SK} {d : Nat} {c : ct} {Q : ct → Int → Prop} (a1 : Int) (h : CI K d mX9_in [(2, 108), (0, a1), (0, 10), (0, 15)] c (fun c1 r2 => (r2 = 0 → ir a1 ∧ (a1 = 0 → Q c1 (c1 108 4)) ∧ (a1 = 1 → CI K d mX9_lastOf [(2, 108), (0, 2), (0, 5)] c1 (fun c6 r7 => Q c6 r7)) ∧ (a1 = 2 → CI K d mX9_lastOf [(2, 108), (0, 3), (0, 6)] c1 (fun c9 r10 => Q c9 r10)) ∧ (a1 = 3 → Q c1 (c1 108 3)) ∧ (a1 = 4 → Q c1 (c1 108 2)) ∧ (a1 = 5 → CI K d mX9_allFond [(2, 108)] c1 (fun c14 r15 => Q c14 r15)) ∧ (a1 = 6 → CI K d mX9_clashes [(2, 108)] c1 (fun c17 r18 => Q c17 r18)) ∧ (a1 = 7 → CI K d mX9_round [(2, 108)] c1 (fun c20 r21 => Q c20 r21)) ∧ (a1 = 8 → CI K d mX9_toward [(2, 108)] c1 (fun c23 r24 => Q c23 r24)) ∧ ((a1 < 0 ∨ 8 < a1) → Q c1 (-10001))) ∧ (¬ (r2 = 0) → ir r2 ∧ CI K d mX9_whoSits [(2, 108), (0, (a1 - 10))] c1 (fun c25 r26 => Q c25 r26)))) : WI K (d + 1) mX9_told 0 [(2, 108), (0, a1)] [] c Q := by
  refine R_aload_n (pc' := 1) dX9_told_0 rfl i108.1 rfl ?_
  refine R_iload_n (pc' := 2) dX9_told_1 rfl rfl ?_
  refine R_bipush (pc' := 4) dX9_told_2 (by decide) rfl ?_
  refine R_bipush (pc' := 6) dX9_told_4 (by decide) rfl ?_
  refine Q_callVI (vs := [(0, a1), (0, 10), (0, 15)]) (st := []) (pc' := 9) dX9_told_6 l_RX9_252 i108 (by decide) rfl rfl (Nat.le_of_ble_eq_true rfl) rfl (Nat.zero_le _) (Nat.zero_le _) rfl ?_
  refine CI.mono h (fun c1 r2 h => ?_)
  by_cases hc3 : r2 = 0
  · have h := h.1 hc3
    refine R_eqS_if (tgt := 21) (pc' := 12) dX9_told_9 (by decide) hc3 rfl ?_
    refine R_iload_n (pc' := 22) dX9_told_21 rfl rfl ?_
    have hs0 := h.1
    have h := h.2
    rcases (show a1 = 0 ∨ a1 = 1 ∨ a1 = 2 ∨ a1 = 3 ∨ a1 = 4 ∨ a1 = 5 ∨ a1 = 6 ∨ a1 = 7 ∨ a1 = 8 ∨ (a1 < 0 ∨ 8 < a1) by omega) with hk | hk | hk | hk | hk | hk | hk | hk | hk | hk
    · have h := h.1 hk
      refine R_tableAt (tgt := 72) 0 hk dX9_told_22 (ir_l (by decide) (by decide)) (by decide) rfl (by decide) ?_
      refine R_aload_n (pc' := 73) dX9_told_72 rfl i108.1 rfl ?_
      refine Q_getfi (J := 4) (pc' := 76) rfl dX9_told_73 l_RX9_22 i108 fd9_4.1 fd9_4.2.1 fd9_4.2.2.1 rfl ?_
      exact Q_iret dX9_told_76 rfl h
    · have h := h.2.1 hk
      refine R_tableAt (tgt := 77) 1 hk dX9_told_22 (ir_l (by decide) (by decide)) (by decide) rfl (by decide) ?_
      refine R_aload_n (pc' := 78) dX9_told_77 rfl i108.1 rfl ?_
      refine R_iconst (pc' := 79) dX9_told_78 rfl ?_
      refine R_iconst (pc' := 80) dX9_told_79 rfl ?_
      refine Q_callVI (vs := [(0, 2), (0, 5)]) (st := []) (pc' := 83) dX9_told_80 l_RX9_355 i108 (by decide) rfl rfl (Nat.le_of_ble_eq_true rfl) rfl (Nat.zero_le _) (Nat.zero_le _) rfl ?_
      refine CI.mono h (fun c6 r7 h => ?_)
      exact Q_iret dX9_told_83 rfl h
    · have h := h.2.2.1 hk
      refine R_tableAt (tgt := 84) 2 hk dX9_told_22 (ir_l (by decide) (by decide)) (by decide) rfl (by decide) ?_
      refine R_aload_n (pc' := 85) dX9_told_84 rfl i108.1 rfl ?_
      refine R_iconst (pc' := 86) dX9_told_85 rfl ?_
      refine R_bipush (pc' := 88) dX9_told_86 (by decide) rfl ?_
      refine Q_callVI (vs := [(0, 3), (0, 6)]) (st := []) (pc' := 91) dX9_told_88 l_RX9_355 i108 (by decide) rfl rfl (Nat.le_of_ble_eq_true rfl) rfl (Nat.zero_le _) (Nat.zero_le _) rfl ?_
      refine CI.mono h (fun c9 r10 h => ?_)
      exact Q_iret dX9_told_91 rfl h
    · have h := h.2.2.2.1 hk
      refine R_tableAt (tgt := 92) 3 hk dX9_told_22 (ir_l (by decide) (by decide)) (by decide) rfl (by decide) ?_
      refine R_aload_n (pc' := 93) dX9_told_92 rfl i108.1 rfl ?_
      refine Q_getfi (J := 3) (pc' := 96) rfl dX9_told_93 l_RX9_19 i108 fd9_3.1 fd9_3.2.1 fd9_3.2.2.1 rfl ?_
      exact Q_iret dX9_told_96 rfl h
    · have h := h.2.2.2.2.1 hk
      refine R_tableAt (tgt := 97) 4 hk dX9_told_22 (ir_l (by decide) (by decide)) (by decide) rfl (by decide) ?_
      refine R_aload_n (pc' := 98) dX9_told_97 rfl i108.1 rfl ?_
      refine Q_getfi (J := 2) (pc' := 101) rfl dX9_told_98 l_RX9_16 i108 fd9_2.1 fd9_2.2.1 fd9_2.2.2.1 rfl ?_
      exact Q_iret dX9_told_101 rfl h
    · have h := h.2.2.2.2.2.1 hk
      refine R_tableAt (tgt := 102) 5 hk dX9_told_22 (ir_l (by decide) (by decide)) (by decide) rfl (by decide) ?_
      refine R_aload_n (pc' := 103) dX9_told_102 rfl i108.1 rfl ?_
      refine Q_callVI (vs := []) (st := []) (pc' := 106) dX9_told_103 l_RX9_383 i108 (by decide) rfl rfl (Nat.le_of_ble_eq_true rfl) rfl (Nat.zero_le _) (Nat.zero_le _) rfl ?_
      refine CI.mono h (fun c14 r15 h => ?_)
      exact Q_iret dX9_told_106 rfl h
    · have h := h.2.2.2.2.2.2.1 hk
      refine R_tableAt (tgt := 107) 6 hk dX9_told_22 (ir_l (by decide) (by decide)) (by decide) rfl (by decide) ?_
      refine R_aload_n (pc' := 108) dX9_told_107 rfl i108.1 rfl ?_
      refine Q_callVI (vs := []) (st := []) (pc' := 111) dX9_told_108 l_RX9_386 i108 (by decide) rfl rfl (Nat.le_of_ble_eq_true rfl) rfl (Nat.zero_le _) (Nat.zero_le _) rfl ?_
      refine CI.mono h (fun c17 r18 h => ?_)
      exact Q_iret dX9_told_111 rfl h
    · have h := h.2.2.2.2.2.2.2.1 hk
      refine R_tableAt (tgt := 112) 7 hk dX9_told_22 (ir_l (by decide) (by decide)) (by decide) rfl (by decide) ?_
      refine R_aload_n (pc' := 113) dX9_told_112 rfl i108.1 rfl ?_
      refine Q_callVI (vs := []) (st := []) (pc' := 116) dX9_told_113 l_RX9_389 i108 (by decide) rfl rfl (Nat.le_of_ble_eq_true rfl) rfl (Nat.zero_le _) (Nat.zero_le _) rfl ?_
      refine CI.mono h (fun c20 r21 h => ?_)
      exact Q_iret dX9_told_116 rfl h
    · have h := h.2.2.2.2.2.2.2.2.1 hk
      refine R_tableAt (tgt := 117) 8 hk dX9_told_22 (ir_l (by decide) (by decide)) (by decide) rfl (by decide) ?_
      refine R_aload_n (pc' := 118) dX9_told_117 rfl i108.1 rfl ?_
      refine Q_callVI (vs := []) (st := []) (pc' := 121) dX9_told_118 l_RX9_392 i108 (by decide) rfl rfl (Nat.le_of_ble_eq_true rfl) rfl (Nat.zero_le _) (Nat.zero_le _) rfl ?_
      refine CI.mono h (fun c23 r24 h => ?_)
      exact Q_iret dX9_told_121 rfl h
    · have h := h.2.2.2.2.2.2.2.2.2 hk
      refine R_tableOut (tgt := 122) dX9_told_22 hs0 hk (by decide) ?_
      refine R_sipush (pc' := 125) dX9_told_122 (by decide) rfl ?_
      exact Q_iret dX9_told_125 rfl h
  · have h := h.2 hc3
    refine R_eqD_if (tgt := 21) (pc' := 12) dX9_told_9 (by decide) hc3 h.1 rfl ?_
    have h := h.2
    refine R_aload_n (pc' := 13) dX9_told_12 rfl i108.1 rfl ?_
    refine R_iload_n (pc' := 14) dX9_told_13 rfl rfl ?_
    refine R_bipush (pc' := 16) dX9_told_14 (by decide) rfl ?_
    refine R_isub (pc' := 17) dX9_told_16 rfl ?_
    refine Q_callVI (vs := [(0, (a1 - 10))]) (st := []) (pc' := 20) dX9_told_17 l_RX9_256 i108 (by decide) rfl rfl (Nat.le_of_ble_eq_true rfl) rfl (Nat.zero_le _) (Nat.zero_le _) rfl ?_
    refine CI.mono h (fun c25 r26 h => ?_)
    exact Q_iret dX9_told_20 rfl h
theorem e_X9_told {K : SK} {d : Nat} {c : ct} {Q : ct → Int → Prop} (a1 : Int) (h : WI K (d + 1) mX9_told 0 [(2, 108), (0, a1)] [] c Q) : CI K (d + 1) mX9_told [(2, 108), (0, a1)] c Q := CM_ofS (by decide) (Nat.le_of_ble_eq_true rfl) _ rfl h
set_option maxRecDepth 100000 in
theorem s_X9_goYear_0 {K : SK} {d : Nat} {c : ct} {Q : ct → Prop}  (h : CV K d mX9_layLikes [(2, 108)] c (fun c1 => WV K (d + 1) mX9_goYear 8 [(2, 108), (0, 0), (0, 0)] [] c1 Q)) : WV K (d + 1) mX9_goYear 0 [(2, 108), (9, 0), (9, 0)] [] c Q := by
  refine R_aload_n (pc' := 1) dX9_goYear_0 rfl i108.1 rfl ?_
  refine Q_callVV (vs := []) (st := []) (pc' := 4) dX9_goYear_1 l_RX9_358 i108 (by decide) rfl rfl (Nat.le_of_ble_eq_true rfl) rfl (Nat.zero_le _) (Nat.zero_le _) rfl ?_
  refine CV.mono h (fun c1 h => ?_)
  refine R_iconst (pc' := 5) dX9_goYear_4 rfl ?_
  refine R_istore_n (L' := [_, _, _]) (pc' := 6) dX9_goYear_5 (by decide) rfl rfl rfl ?_
  refine R_iconst (pc' := 7) dX9_goYear_6 rfl ?_
  refine R_istore_n (L' := [_, _, _]) (pc' := 8) dX9_goYear_7 (by decide) rfl rfl rfl ?_
  exact WP_wk (wk_e (wk_e (wk_e wk_n))) h
set_option maxRecDepth 100000 in
theorem s_X9_goYear_8 {K : SK} {d : Nat} {c : ct} {Q : ct → Prop} (a1 : Int) (a2 : Int) (h : (ir a2 ∧ ir (c 108 0)) ∧ ((c 108 0) ≤ a2 → WV K (d + 1) mX9_goYear 72 [(2, 108), (0, a1), (0, 0)] [] c Q) ∧ (¬ ((c 108 0) ≤ a2) → CI K d mX9_has [(2, 108), (0, (c 108 1)), (0, a2)] c (fun c3 r4 => (r4 = 0 → CI K d mX9_has [(2, 108), (0, (c3 108 2)), (0, a2)] c3 (fun c6 r7 => (r7 = 0 → CI K d mX9_fondBy [(2, 108), (0, a2)] c6 (fun c9 r10 => CI K d mX9_lastOf [(2, 108), (0, 2), (0, 5)] c9 (fun c11 r12 => (ir r10 ∧ ir r12) ∧ (r10 < r12 → WV K (d + 1) mX9_goYear 8 [(2, 108), (0, (bOr a1 0)), (0, (a2 + 1))] [] c11 Q) ∧ (¬ (r10 < r12) → WV K (d + 1) mX9_goYear 8 [(2, 108), (0, (bOr a1 (bShl 1 a2))), (0, (a2 + 1))] [] c11 Q)))) ∧ (¬ (r7 = 0) → ir r7 ∧ WV K (d + 1) mX9_goYear 8 [(2, 108), (0, (bOr a1 0)), (0, (a2 + 1))] [] c6 Q))) ∧ (¬ (r4 = 0) → ir r4 ∧ WV K (d + 1) mX9_goYear 8 [(2, 108), (0, (bOr a1 0)), (0, (a2 + 1))] [] c3 Q)))) : WV K (d + 1) mX9_goYear 8 [(2, 108), (0, a1), (0, a2)] [] c Q := by
  refine R_iload_n (pc' := 9) dX9_goYear_8 rfl rfl ?_
  refine R_aload_n (pc' := 10) dX9_goYear_9 rfl i108.1 rfl ?_
  refine Q_getfi (J := 0) (pc' := 13) rfl dX9_goYear_10 l_RX9_7 i108 fd9_0.1 fd9_0.2.1 fd9_0.2.2.1 rfl ?_
  have hs2 := h.1
  have h := h.2
  refine R_icmp_ge (tgt := 70) (pc' := 16) dX9_goYear_13 (by decide) hs2.1 hs2.2 rfl (fun hc1 => ?_) (fun hc1 => ?_)
  · have h := h.1 hc1
    refine R_iconst (pc' := 71) dX9_goYear_70 rfl ?_
    refine R_istore_n (L' := [_, _, _]) (pc' := 72) dX9_goYear_71 (by decide) rfl rfl rfl ?_
    exact WP_wk (wk_e (wk_e (wk_e wk_n))) h
  · have h := h.2 hc1
    refine R_iload_n (pc' := 17) dX9_goYear_16 rfl rfl ?_
    refine R_aload_n (pc' := 18) dX9_goYear_17 rfl i108.1 rfl ?_
    refine R_aload_n (pc' := 19) dX9_goYear_18 rfl i108.1 rfl ?_
    refine Q_getfi (J := 1) (pc' := 22) rfl dX9_goYear_19 l_RX9_13 i108 fd9_1.1 fd9_1.2.1 fd9_1.2.2.1 rfl ?_
    refine R_iload_n (pc' := 23) dX9_goYear_22 rfl rfl ?_
    refine Q_callVI (vs := [(0, (c 108 1)), (0, a2)]) (st := [(0, a1)]) (pc' := 26) dX9_goYear_23 l_RX9_248 i108 (by decide) rfl rfl (Nat.le_of_ble_eq_true rfl) rfl (Nat.zero_le _) (Nat.zero_le _) rfl ?_
    refine CI.mono h (fun c3 r4 h => ?_)
    by_cases hc5 : r4 = 0
    · have h := h.1 hc5
      refine R_neS_if (tgt := 61) (pc' := 29) dX9_goYear_26 (by decide) hc5 rfl ?_
      refine R_aload_n (pc' := 30) dX9_goYear_29 rfl i108.1 rfl ?_
      refine R_aload_n (pc' := 31) dX9_goYear_30 rfl i108.1 rfl ?_
      refine Q_getfi (J := 2) (pc' := 34) rfl dX9_goYear_31 l_RX9_16 i108 fd9_2.1 fd9_2.2.1 fd9_2.2.2.1 rfl ?_
      refine R_iload_n (pc' := 35) dX9_goYear_34 rfl rfl ?_
      refine Q_callVI (vs := [(0, (c3 108 2)), (0, a2)]) (st := [(0, a1)]) (pc' := 38) dX9_goYear_35 l_RX9_248 i108 (by decide) rfl rfl (Nat.le_of_ble_eq_true rfl) rfl (Nat.zero_le _) (Nat.zero_le _) rfl ?_
      refine CI.mono h (fun c6 r7 h => ?_)
      by_cases hc8 : r7 = 0
      · have h := h.1 hc8
        refine R_neS_if (tgt := 61) (pc' := 41) dX9_goYear_38 (by decide) hc8 rfl ?_
        refine R_aload_n (pc' := 42) dX9_goYear_41 rfl i108.1 rfl ?_
        refine R_iload_n (pc' := 43) dX9_goYear_42 rfl rfl ?_
        refine Q_callVI (vs := [(0, a2)]) (st := [(0, a1)]) (pc' := 46) dX9_goYear_43 l_RX9_361 i108 (by decide) rfl rfl (Nat.le_of_ble_eq_true rfl) rfl (Nat.zero_le _) (Nat.zero_le _) rfl ?_
        refine CI.mono h (fun c9 r10 h => ?_)
        refine R_aload_n (pc' := 47) dX9_goYear_46 rfl i108.1 rfl ?_
        refine R_iconst (pc' := 48) dX9_goYear_47 rfl ?_
        refine R_iconst (pc' := 49) dX9_goYear_48 rfl ?_
        refine Q_callVI (vs := [(0, 2), (0, 5)]) (st := [(0, r10), (0, a1)]) (pc' := 52) dX9_goYear_49 l_RX9_355 i108 (by decide) rfl rfl (Nat.le_of_ble_eq_true rfl) rfl (Nat.zero_le _) (Nat.zero_le _) rfl ?_
        refine CI.mono h (fun c11 r12 h => ?_)
        have hs14 := h.1
        have h := h.2
        refine R_icmp_lt (tgt := 61) (pc' := 55) dX9_goYear_52 (by decide) hs14.1 hs14.2 rfl (fun hc13 => ?_) (fun hc13 => ?_)
        · have h := h.1 hc13
          refine R_iconst (pc' := 62) dX9_goYear_61 rfl ?_
          refine R_ior (pc' := 63) dX9_goYear_62 rfl ?_
          refine R_istore_n (L' := [_, _, _]) (pc' := 64) dX9_goYear_63 (by decide) rfl rfl rfl ?_
          refine R_iinc (L' := [_, _, _]) (pc' := 67) dX9_goYear_64 rfl (by decide) rfl rfl rfl ?_
          refine R_goto (tgt := 8) dX9_goYear_67 (by decide) ?_
          exact WP_wk (wk_e (wk_e (wk_e wk_n))) h
        · have h := h.2 hc13
          refine R_iconst (pc' := 56) dX9_goYear_55 rfl ?_
          refine R_iload_n (pc' := 57) dX9_goYear_56 rfl rfl ?_
          refine R_ishl (pc' := 58) dX9_goYear_57 rfl ?_
          refine R_goto (tgt := 62) dX9_goYear_58 (by decide) ?_
          refine R_ior (pc' := 63) dX9_goYear_62 rfl ?_
          refine R_istore_n (L' := [_, _, _]) (pc' := 64) dX9_goYear_63 (by decide) rfl rfl rfl ?_
          refine R_iinc (L' := [_, _, _]) (pc' := 67) dX9_goYear_64 rfl (by decide) rfl rfl rfl ?_
          refine R_goto (tgt := 8) dX9_goYear_67 (by decide) ?_
          exact WP_wk (wk_e (wk_e (wk_e wk_n))) h
      · have h := h.2 hc8
        refine R_neD_if (tgt := 61) (pc' := 41) dX9_goYear_38 (by decide) hc8 h.1 rfl ?_
        have h := h.2
        refine R_iconst (pc' := 62) dX9_goYear_61 rfl ?_
        refine R_ior (pc' := 63) dX9_goYear_62 rfl ?_
        refine R_istore_n (L' := [_, _, _]) (pc' := 64) dX9_goYear_63 (by decide) rfl rfl rfl ?_
        refine R_iinc (L' := [_, _, _]) (pc' := 67) dX9_goYear_64 rfl (by decide) rfl rfl rfl ?_
        refine R_goto (tgt := 8) dX9_goYear_67 (by decide) ?_
        exact WP_wk (wk_e (wk_e (wk_e wk_n))) h
    · have h := h.2 hc5
      refine R_neD_if (tgt := 61) (pc' := 29) dX9_goYear_26 (by decide) hc5 h.1 rfl ?_
      have h := h.2
      refine R_iconst (pc' := 62) dX9_goYear_61 rfl ?_
      refine R_ior (pc' := 63) dX9_goYear_62 rfl ?_
      refine R_istore_n (L' := [_, _, _]) (pc' := 64) dX9_goYear_63 (by decide) rfl rfl rfl ?_
      refine R_iinc (L' := [_, _, _]) (pc' := 67) dX9_goYear_64 rfl (by decide) rfl rfl rfl ?_
      refine R_goto (tgt := 8) dX9_goYear_67 (by decide) ?_
      exact WP_wk (wk_e (wk_e (wk_e wk_n))) h
set_option maxRecDepth 100000 in
theorem s_X9_goYear_72 {K : SK} {d : Nat} {c : ct} {Q : ct → Prop} (a1 : Int) (a2 : Int) (h : (ir a2 ∧ ir (c 108 0)) ∧ ((c 108 0) ≤ a2 → ∀ c3 : ct, c3 = up2 c 108 2 (bOr (c 108 2) a1) → ∀ c4 : ct, c4 = up2 c3 108 4 ((c3 108 4) + 1) → Q c4) ∧ (¬ ((c 108 0) ≤ a2) → CI K d mX9_has [(2, 108), (0, a1), (0, a2)] c (fun c5 r6 => (r6 = 0 → WV K (d + 1) mX9_goYear 72 [(2, 108), (0, a1), (0, (a2 + 1))] [] c5 Q) ∧ (¬ (r6 = 0) → ir r6 ∧ ((0 ≤ a2 ∧ a2 < 6)) ∧ CI K d mX9_least [(2, 108), (0, ((c5 112 a2) + 1)), (0, (c5 108 29))] c5 (fun c9 r10 => ((0 ≤ a2 ∧ a2 < 6)) ∧ ∀ c11 : ct, c11 = up2 c9 112 a2 r10 → WV K (d + 1) mX9_goYear 72 [(2, 108), (0, a1), (0, (a2 + 1))] [] c11 Q))))) : WV K (d + 1) mX9_goYear 72 [(2, 108), (0, a1), (0, a2)] [] c Q := by
  refine R_iload_n (pc' := 73) dX9_goYear_72 rfl rfl ?_
  refine R_aload_n (pc' := 74) dX9_goYear_73 rfl i108.1 rfl ?_
  refine Q_getfi (J := 0) (pc' := 77) rfl dX9_goYear_74 l_RX9_7 i108 fd9_0.1 fd9_0.2.1 fd9_0.2.2.1 rfl ?_
  have hs2 := h.1
  have h := h.2
  refine R_icmp_ge (tgt := 117) (pc' := 80) dX9_goYear_77 (by decide) hs2.1 hs2.2 rfl (fun hc1 => ?_) (fun hc1 => ?_)
  · have h := h.1 hc1
    refine R_aload_n (pc' := 118) dX9_goYear_117 rfl i108.1 rfl ?_
    refine R_dup (pc' := 119) dX9_goYear_118 (by simp) rfl ?_
    refine Q_getfi (J := 2) (pc' := 122) rfl dX9_goYear_119 l_RX9_16 i108 fd9_2.1 fd9_2.2.1 fd9_2.2.2.1 rfl ?_
    refine R_iload_n (pc' := 123) dX9_goYear_122 rfl rfl ?_
    refine R_ior (pc' := 124) dX9_goYear_123 rfl ?_
    refine Q_putfi (J := 2) (pc' := 127) rfl dX9_goYear_124 l_RX9_16 i108 fd9_2.1 fd9_2.2.1 fd9_2.2.2.2.1 fd9_2.2.2.2.2 rfl (fun c3 hc3 => ?_)
    have h := h c3 hc3
    refine R_aload_n (pc' := 128) dX9_goYear_127 rfl i108.1 rfl ?_
    refine R_dup (pc' := 129) dX9_goYear_128 (by simp) rfl ?_
    refine Q_getfi (J := 4) (pc' := 132) rfl dX9_goYear_129 l_RX9_22 i108 fd9_4.1 fd9_4.2.1 fd9_4.2.2.1 rfl ?_
    refine R_iconst (pc' := 133) dX9_goYear_132 rfl ?_
    refine R_iadd (pc' := 134) dX9_goYear_133 rfl ?_
    refine Q_putfi (J := 4) (pc' := 137) rfl dX9_goYear_134 l_RX9_22 i108 fd9_4.1 fd9_4.2.1 fd9_4.2.2.2.1 fd9_4.2.2.2.2 rfl (fun c4 hc4 => ?_)
    have h := h c4 hc4
    exact Q_ret dX9_goYear_137 rfl h
  · have h := h.2 hc1
    refine R_aload_n (pc' := 81) dX9_goYear_80 rfl i108.1 rfl ?_
    refine R_iload_n (pc' := 82) dX9_goYear_81 rfl rfl ?_
    refine R_iload_n (pc' := 83) dX9_goYear_82 rfl rfl ?_
    refine Q_callVI (vs := [(0, a1), (0, a2)]) (st := []) (pc' := 86) dX9_goYear_83 l_RX9_248 i108 (by decide) rfl rfl (Nat.le_of_ble_eq_true rfl) rfl (Nat.zero_le _) (Nat.zero_le _) rfl ?_
    refine CI.mono h (fun c5 r6 h => ?_)
    by_cases hc7 : r6 = 0
    · have h := h.1 hc7
      refine R_eqS_if (tgt := 111) (pc' := 89) dX9_goYear_86 (by decide) hc7 rfl ?_
      refine R_iinc (L' := [_, _, _]) (pc' := 114) dX9_goYear_111 rfl (by decide) rfl rfl rfl ?_
      refine R_goto (tgt := 72) dX9_goYear_114 (by decide) ?_
      exact WP_wk (wk_e (wk_e (wk_e wk_n))) h
    · have h := h.2 hc7
      refine R_eqD_if (tgt := 111) (pc' := 89) dX9_goYear_86 (by decide) hc7 h.1 rfl ?_
      have h := h.2
      refine R_aload_n (pc' := 90) dX9_goYear_89 rfl i108.1 rfl ?_
      refine Q_getfr (v := 112) (J := 8) (pc' := 93) rfl dX9_goYear_90 l_RX9_35 i108 fd9_8.1 fd9_8.2.1 fd9_8.2.2.1 fd9_8.2.2.2 f108_8 rfl ?_
      refine R_iload_n (pc' := 94) dX9_goYear_93 rfl rfl ?_
      refine R_aload_n (pc' := 95) dX9_goYear_94 rfl i108.1 rfl ?_
      refine R_aload_n (pc' := 96) dX9_goYear_95 rfl i108.1 rfl ?_
      refine Q_getfr (v := 112) (J := 8) (pc' := 99) rfl dX9_goYear_96 l_RX9_35 i108 fd9_8.1 fd9_8.2.1 fd9_8.2.2.1 fd9_8.2.2.2 f108_8 rfl ?_
      refine R_iload_n (pc' := 100) dX9_goYear_99 rfl rfl ?_
      have hs8 := h.1
      have h := h.2
      refine Q_iaload (N := 6) (pc' := 101) rfl dX9_goYear_100 i112 (by decide) hs8 rfl ?_
      refine R_iconst (pc' := 102) dX9_goYear_101 rfl ?_
      refine R_iadd (pc' := 103) dX9_goYear_102 rfl ?_
      refine R_aload_n (pc' := 104) dX9_goYear_103 rfl i108.1 rfl ?_
      refine Q_getfi (J := 29) (pc' := 107) rfl dX9_goYear_104 l_RX9_99 i108 fd9_29.1 fd9_29.2.1 fd9_29.2.2.1 rfl ?_
      refine Q_callVI (vs := [(0, ((c5 112 a2) + 1)), (0, (c5 108 29))]) (st := [(0, a2), (2, 112)]) (pc' := 110) dX9_goYear_107 l_RX9_380 i108 (by decide) rfl rfl (Nat.le_of_ble_eq_true rfl) rfl (Nat.zero_le _) (Nat.zero_le _) rfl ?_
      refine CI.mono h (fun c9 r10 h => ?_)
      have hs12 := h.1
      have h := h.2
      refine Q_iastore (N := 6) (pc' := 111) rfl dX9_goYear_110 i112 (by decide) hs12  rfl (fun c11 hc11 => ?_)
      have h := h c11 hc11
      refine R_iinc (L' := [_, _, _]) (pc' := 114) dX9_goYear_111 rfl (by decide) rfl rfl rfl ?_
      refine R_goto (tgt := 72) dX9_goYear_114 (by decide) ?_
      exact WP_wk (wk_e (wk_e (wk_e wk_n))) h
theorem e_X9_goYear {K : SK} {d : Nat} {c : ct} {Q : ct → Prop}  (h : WV K (d + 1) mX9_goYear 0 [(2, 108), (9, 0), (9, 0)] [] c Q) : CV K (d + 1) mX9_goYear [(2, 108)] c Q := CM_ofS (by decide) (Nat.le_of_ble_eq_true rfl) _ rfl h
set_option maxRecDepth 100000 in
theorem s_X9_goYears_0 {K : SK} {d : Nat} {c : ct} {Q : ct → Prop} (a1 : Int) (h : WV K (d + 1) mX9_goYears 2 [(2, 108), (0, a1), (0, 0)] [] c Q) : WV K (d + 1) mX9_goYears 0 [(2, 108), (0, a1), (9, 0)] [] c Q := by
  refine R_iconst (pc' := 1) dX9_goYears_0 rfl ?_
  refine R_istore_n (L' := [_, _, _]) (pc' := 2) dX9_goYears_1 (by decide) rfl rfl rfl ?_
  exact WP_wk (wk_e (wk_e (wk_e wk_n))) h
set_option maxRecDepth 100000 in
theorem s_X9_goYears_2 {K : SK} {d : Nat} {c : ct} {Q : ct → Prop} (a1 : Int) (a2 : Int) (h : (ir a2 ∧ ir a1) ∧ (a1 ≤ a2 → Q c) ∧ (¬ (a1 ≤ a2) → CV K d mX9_goYear [(2, 108)] c (fun c3 => WV K (d + 1) mX9_goYears 2 [(2, 108), (0, a1), (0, (a2 + 1))] [] c3 Q))) : WV K (d + 1) mX9_goYears 2 [(2, 108), (0, a1), (0, a2)] [] c Q := by
  refine R_iload_n (pc' := 3) dX9_goYears_2 rfl rfl ?_
  refine R_iload_n (pc' := 4) dX9_goYears_3 rfl rfl ?_
  have hs2 := h.1
  have h := h.2
  refine R_icmp_ge (tgt := 17) (pc' := 7) dX9_goYears_4 (by decide) hs2.1 hs2.2 rfl (fun hc1 => ?_) (fun hc1 => ?_)
  · have h := h.1 hc1
    exact Q_ret dX9_goYears_17 rfl h
  · have h := h.2 hc1
    refine R_aload_n (pc' := 8) dX9_goYears_7 rfl i108.1 rfl ?_
    refine Q_callVV (vs := []) (st := []) (pc' := 11) dX9_goYears_8 l_RX9_395 i108 (by decide) rfl rfl (Nat.le_of_ble_eq_true rfl) rfl (Nat.zero_le _) (Nat.zero_le _) rfl ?_
    refine CV.mono h (fun c3 h => ?_)
    refine R_iinc (L' := [_, _, _]) (pc' := 14) dX9_goYears_11 rfl (by decide) rfl rfl rfl ?_
    refine R_goto (tgt := 2) dX9_goYears_14 (by decide) ?_
    exact WP_wk (wk_e (wk_e (wk_e wk_n))) h
theorem e_X9_goYears {K : SK} {d : Nat} {c : ct} {Q : ct → Prop} (a1 : Int) (h : WV K (d + 1) mX9_goYears 0 [(2, 108), (0, a1), (9, 0)] [] c Q) : CV K (d + 1) mX9_goYears [(2, 108), (0, a1)] c Q := CM_ofS (by decide) (Nat.le_of_ble_eq_true rfl) _ rfl h
set_option maxRecDepth 100000 in
theorem s_X9_pass_0 {K : SK} {d : Nat} {c : ct} {Q : ct → Int → Prop} (a1 : Int) (h : CI K d mX9_isYears [(2, 108), (0, a1)] c (fun c1 r2 => (r2 = 0 → Q c1 (-2)) ∧ (¬ (r2 = 0) → ir r2 ∧ (ir ((c1 108 4) + a1)) ∧ (((c1 108 4) + a1) ≤ 9999 → CV K d mX9_goYears [(2, 108), (0, a1)] c1 (fun c6 => Q c6 (c6 108 4))) ∧ (¬ (((c1 108 4) + a1) ≤ 9999) → Q c1 (-3))))) : WI K (d + 1) mX9_pass 0 [(2, 108), (0, a1)] [] c Q := by
  refine R_aload_n (pc' := 1) dX9_pass_0 rfl i108.1 rfl ?_
  refine R_iload_n (pc' := 2) dX9_pass_1 rfl rfl ?_
  refine Q_callVI (vs := [(0, a1)]) (st := []) (pc' := 5) dX9_pass_2 l_RX9_398 i108 (by decide) rfl rfl (Nat.le_of_ble_eq_true rfl) rfl (Nat.zero_le _) (Nat.zero_le _) rfl ?_
  refine CI.mono h (fun c1 r2 h => ?_)
  by_cases hc3 : r2 = 0
  · have h := h.1 hc3
    refine R_neS_if (tgt := 11) (pc' := 8) dX9_pass_5 (by decide) hc3 rfl ?_
    refine R_bipush (pc' := 10) dX9_pass_8 (by decide) rfl ?_
    exact Q_iret dX9_pass_10 rfl h
  · have h := h.2 hc3
    refine R_neD_if (tgt := 11) (pc' := 8) dX9_pass_5 (by decide) hc3 h.1 rfl ?_
    have h := h.2
    refine R_aload_n (pc' := 12) dX9_pass_11 rfl i108.1 rfl ?_
    refine Q_getfi (J := 4) (pc' := 15) rfl dX9_pass_12 l_RX9_22 i108 fd9_4.1 fd9_4.2.1 fd9_4.2.2.1 rfl ?_
    refine R_iload_n (pc' := 16) dX9_pass_15 rfl rfl ?_
    refine R_iadd (pc' := 17) dX9_pass_16 rfl ?_
    refine R_sipush (pc' := 20) dX9_pass_17 (by decide) rfl ?_
    have hs5 := h.1
    have h := h.2
    refine R_icmp_le (tgt := 26) (pc' := 23) dX9_pass_20 (by decide) hs5 (ir_l (by decide) (by decide)) rfl (fun hc4 => ?_) (fun hc4 => ?_)
    · have h := h.1 hc4
      refine R_aload_n (pc' := 27) dX9_pass_26 rfl i108.1 rfl ?_
      refine R_iload_n (pc' := 28) dX9_pass_27 rfl rfl ?_
      refine Q_callVV (vs := [(0, a1)]) (st := []) (pc' := 31) dX9_pass_28 l_RX9_401 i108 (by decide) rfl rfl (Nat.le_of_ble_eq_true rfl) rfl (Nat.zero_le _) (Nat.zero_le _) rfl ?_
      refine CV.mono h (fun c6 h => ?_)
      refine R_aload_n (pc' := 32) dX9_pass_31 rfl i108.1 rfl ?_
      refine Q_getfi (J := 4) (pc' := 35) rfl dX9_pass_32 l_RX9_22 i108 fd9_4.1 fd9_4.2.1 fd9_4.2.2.1 rfl ?_
      exact Q_iret dX9_pass_35 rfl h
    · have h := h.2 hc4
      refine R_bipush (pc' := 25) dX9_pass_23 (by decide) rfl ?_
      exact Q_iret dX9_pass_25 rfl h
theorem e_X9_pass {K : SK} {d : Nat} {c : ct} {Q : ct → Int → Prop} (a1 : Int) (h : WI K (d + 1) mX9_pass 0 [(2, 108), (0, a1)] [] c Q) : CI K (d + 1) mX9_pass [(2, 108), (0, a1)] c Q := CM_ofS (by decide) (Nat.le_of_ble_eq_true rfl) _ rfl h
set_option maxRecDepth 100000 in
theorem s_X9_save_0 {K : SK} {d : Nat} {c : ct} {Q : ct → Prop}  (h : ∀ c1 : ct, c1 = up2 c 108 29 2000000000 → ∀ c2 : ct, c2 = up2 c1 108 30 (c1 108 1) → ∀ c3 : ct, c3 = up2 c2 108 31 (c2 108 2) → ∀ c4 : ct, c4 = up2 c3 108 32 (c3 108 3) → ∀ c5 : ct, c5 = up2 c4 108 33 (c4 108 4) → WV K (d + 1) mX9_save 41 [(2, 108), (0, 0)] [] c5 Q) : WV K (d + 1) mX9_save 0 [(2, 108), (9, 0)] [] c Q := by
  refine R_aload_n (pc' := 1) dX9_save_0 rfl i108.1 rfl ?_
  refine R_ldcw (x := 2000000000) (pc' := 4) dX9_save_1 l_RX9_404 (by decide) rfl ?_
  refine Q_putfi (J := 29) (pc' := 7) rfl dX9_save_4 l_RX9_99 i108 fd9_29.1 fd9_29.2.1 fd9_29.2.2.2.1 fd9_29.2.2.2.2 rfl (fun c1 hc1 => ?_)
  have h := h c1 hc1
  refine R_aload_n (pc' := 8) dX9_save_7 rfl i108.1 rfl ?_
  refine R_aload_n (pc' := 9) dX9_save_8 rfl i108.1 rfl ?_
  refine Q_getfi (J := 1) (pc' := 12) rfl dX9_save_9 l_RX9_13 i108 fd9_1.1 fd9_1.2.1 fd9_1.2.2.1 rfl ?_
  refine Q_putfi (J := 30) (pc' := 15) rfl dX9_save_12 l_RX9_102 i108 fd9_30.1 fd9_30.2.1 fd9_30.2.2.2.1 fd9_30.2.2.2.2 rfl (fun c2 hc2 => ?_)
  have h := h c2 hc2
  refine R_aload_n (pc' := 16) dX9_save_15 rfl i108.1 rfl ?_
  refine R_aload_n (pc' := 17) dX9_save_16 rfl i108.1 rfl ?_
  refine Q_getfi (J := 2) (pc' := 20) rfl dX9_save_17 l_RX9_16 i108 fd9_2.1 fd9_2.2.1 fd9_2.2.2.1 rfl ?_
  refine Q_putfi (J := 31) (pc' := 23) rfl dX9_save_20 l_RX9_105 i108 fd9_31.1 fd9_31.2.1 fd9_31.2.2.2.1 fd9_31.2.2.2.2 rfl (fun c3 hc3 => ?_)
  have h := h c3 hc3
  refine R_aload_n (pc' := 24) dX9_save_23 rfl i108.1 rfl ?_
  refine R_aload_n (pc' := 25) dX9_save_24 rfl i108.1 rfl ?_
  refine Q_getfi (J := 3) (pc' := 28) rfl dX9_save_25 l_RX9_19 i108 fd9_3.1 fd9_3.2.1 fd9_3.2.2.1 rfl ?_
  refine Q_putfi (J := 32) (pc' := 31) rfl dX9_save_28 l_RX9_108 i108 fd9_32.1 fd9_32.2.1 fd9_32.2.2.2.1 fd9_32.2.2.2.2 rfl (fun c4 hc4 => ?_)
  have h := h c4 hc4
  refine R_aload_n (pc' := 32) dX9_save_31 rfl i108.1 rfl ?_
  refine R_aload_n (pc' := 33) dX9_save_32 rfl i108.1 rfl ?_
  refine Q_getfi (J := 4) (pc' := 36) rfl dX9_save_33 l_RX9_22 i108 fd9_4.1 fd9_4.2.1 fd9_4.2.2.1 rfl ?_
  refine Q_putfi (J := 33) (pc' := 39) rfl dX9_save_36 l_RX9_111 i108 fd9_33.1 fd9_33.2.1 fd9_33.2.2.2.1 fd9_33.2.2.2.2 rfl (fun c5 hc5 => ?_)
  have h := h c5 hc5
  refine R_iconst (pc' := 40) dX9_save_39 rfl ?_
  refine R_istore_n (L' := [_, _]) (pc' := 41) dX9_save_40 (by decide) rfl rfl rfl ?_
  exact WP_wk (wk_e (wk_e wk_n)) h
set_option maxRecDepth 100000 in
theorem s_X9_save_41 {K : SK} {d : Nat} {c : ct} {Q : ct → Prop} (a1 : Int) (h : (ir a1) ∧ (6 ≤ a1 → Q c) ∧ (¬ (6 ≤ a1) → ((0 ≤ a1 ∧ a1 < 6)) ∧ ((0 ≤ a1 ∧ a1 < 6)) ∧ ∀ c4 : ct, c4 = up2 c 125 a1 (c 111 a1) → ((0 ≤ a1 ∧ a1 < 6)) ∧ ((0 ≤ a1 ∧ a1 < 6)) ∧ ∀ c7 : ct, c7 = up2 c4 126 a1 (c4 112 a1) → WV K (d + 1) mX9_save 41 [(2, 108), (0, (a1 + 1))] [] c7 Q)) : WV K (d + 1) mX9_save 41 [(2, 108), (0, a1)] [] c Q := by
  refine R_iload_n (pc' := 42) dX9_save_41 rfl rfl ?_
  refine R_bipush (pc' := 44) dX9_save_42 (by decide) rfl ?_
  have hs2 := h.1
  have h := h.2
  refine R_icmp_ge (tgt := 77) (pc' := 47) dX9_save_44 (by decide) hs2 (ir_l (by decide) (by decide)) rfl (fun hc1 => ?_) (fun hc1 => ?_)
  · have h := h.1 hc1
    exact Q_ret dX9_save_77 rfl h
  · have h := h.2 hc1
    refine R_aload_n (pc' := 48) dX9_save_47 rfl i108.1 rfl ?_
    refine Q_getfr (v := 125) (J := 34) (pc' := 51) rfl dX9_save_48 l_RX9_114 i108 fd9_34.1 fd9_34.2.1 fd9_34.2.2.1 fd9_34.2.2.2 f108_34 rfl ?_
    refine R_iload_n (pc' := 52) dX9_save_51 rfl rfl ?_
    refine R_aload_n (pc' := 53) dX9_save_52 rfl i108.1 rfl ?_
    refine Q_getfr (v := 111) (J := 7) (pc' := 56) rfl dX9_save_53 l_RX9_32 i108 fd9_7.1 fd9_7.2.1 fd9_7.2.2.1 fd9_7.2.2.2 f108_7 rfl ?_
    refine R_iload_n (pc' := 57) dX9_save_56 rfl rfl ?_
    have hs3 := h.1
    have h := h.2
    refine Q_iaload (N := 6) (pc' := 58) rfl dX9_save_57 i111 (by decide) hs3 rfl ?_
    have hs5 := h.1
    have h := h.2
    refine Q_iastore (N := 6) (pc' := 59) rfl dX9_save_58 i125 (by decide) hs5  rfl (fun c4 hc4 => ?_)
    have h := h c4 hc4
    refine R_aload_n (pc' := 60) dX9_save_59 rfl i108.1 rfl ?_
    refine Q_getfr (v := 126) (J := 35) (pc' := 63) rfl dX9_save_60 l_RX9_117 i108 fd9_35.1 fd9_35.2.1 fd9_35.2.2.1 fd9_35.2.2.2 f108_35 rfl ?_
    refine R_iload_n (pc' := 64) dX9_save_63 rfl rfl ?_
    refine R_aload_n (pc' := 65) dX9_save_64 rfl i108.1 rfl ?_
    refine Q_getfr (v := 112) (J := 8) (pc' := 68) rfl dX9_save_65 l_RX9_35 i108 fd9_8.1 fd9_8.2.1 fd9_8.2.2.1 fd9_8.2.2.2 f108_8 rfl ?_
    refine R_iload_n (pc' := 69) dX9_save_68 rfl rfl ?_
    have hs6 := h.1
    have h := h.2
    refine Q_iaload (N := 6) (pc' := 70) rfl dX9_save_69 i112 (by decide) hs6 rfl ?_
    have hs8 := h.1
    have h := h.2
    refine Q_iastore (N := 6) (pc' := 71) rfl dX9_save_70 i126 (by decide) hs8  rfl (fun c7 hc7 => ?_)
    have h := h c7 hc7
    refine R_iinc (L' := [_, _]) (pc' := 74) dX9_save_71 rfl (by decide) rfl rfl rfl ?_
    refine R_goto (tgt := 41) dX9_save_74 (by decide) ?_
    exact WP_wk (wk_e (wk_e wk_n)) h
theorem e_X9_save {K : SK} {d : Nat} {c : ct} {Q : ct → Prop}  (h : WV K (d + 1) mX9_save 0 [(2, 108), (9, 0)] [] c Q) : CV K (d + 1) mX9_save [(2, 108)] c Q := CM_ofS (by decide) (Nat.le_of_ble_eq_true rfl) _ rfl h
set_option maxRecDepth 100000 in
theorem s_X9_putBack_0 {K : SK} {d : Nat} {c : ct} {Q : ct → Prop}  (h : ∀ c1 : ct, c1 = up2 c 108 29 9999 → ∀ c2 : ct, c2 = up2 c1 108 1 (c1 108 30) → ∀ c3 : ct, c3 = up2 c2 108 2 (c2 108 31) → ∀ c4 : ct, c4 = up2 c3 108 3 (c3 108 32) → ∀ c5 : ct, c5 = up2 c4 108 4 (c4 108 33) → WV K (d + 1) mX9_putBack 41 [(2, 108), (0, 0)] [] c5 Q) : WV K (d + 1) mX9_putBack 0 [(2, 108), (9, 0)] [] c Q := by
  refine R_aload_n (pc' := 1) dX9_putBack_0 rfl i108.1 rfl ?_
  refine R_sipush (pc' := 4) dX9_putBack_1 (by decide) rfl ?_
  refine Q_putfi (J := 29) (pc' := 7) rfl dX9_putBack_4 l_RX9_99 i108 fd9_29.1 fd9_29.2.1 fd9_29.2.2.2.1 fd9_29.2.2.2.2 rfl (fun c1 hc1 => ?_)
  have h := h c1 hc1
  refine R_aload_n (pc' := 8) dX9_putBack_7 rfl i108.1 rfl ?_
  refine R_aload_n (pc' := 9) dX9_putBack_8 rfl i108.1 rfl ?_
  refine Q_getfi (J := 30) (pc' := 12) rfl dX9_putBack_9 l_RX9_102 i108 fd9_30.1 fd9_30.2.1 fd9_30.2.2.1 rfl ?_
  refine Q_putfi (J := 1) (pc' := 15) rfl dX9_putBack_12 l_RX9_13 i108 fd9_1.1 fd9_1.2.1 fd9_1.2.2.2.1 fd9_1.2.2.2.2 rfl (fun c2 hc2 => ?_)
  have h := h c2 hc2
  refine R_aload_n (pc' := 16) dX9_putBack_15 rfl i108.1 rfl ?_
  refine R_aload_n (pc' := 17) dX9_putBack_16 rfl i108.1 rfl ?_
  refine Q_getfi (J := 31) (pc' := 20) rfl dX9_putBack_17 l_RX9_105 i108 fd9_31.1 fd9_31.2.1 fd9_31.2.2.1 rfl ?_
  refine Q_putfi (J := 2) (pc' := 23) rfl dX9_putBack_20 l_RX9_16 i108 fd9_2.1 fd9_2.2.1 fd9_2.2.2.2.1 fd9_2.2.2.2.2 rfl (fun c3 hc3 => ?_)
  have h := h c3 hc3
  refine R_aload_n (pc' := 24) dX9_putBack_23 rfl i108.1 rfl ?_
  refine R_aload_n (pc' := 25) dX9_putBack_24 rfl i108.1 rfl ?_
  refine Q_getfi (J := 32) (pc' := 28) rfl dX9_putBack_25 l_RX9_108 i108 fd9_32.1 fd9_32.2.1 fd9_32.2.2.1 rfl ?_
  refine Q_putfi (J := 3) (pc' := 31) rfl dX9_putBack_28 l_RX9_19 i108 fd9_3.1 fd9_3.2.1 fd9_3.2.2.2.1 fd9_3.2.2.2.2 rfl (fun c4 hc4 => ?_)
  have h := h c4 hc4
  refine R_aload_n (pc' := 32) dX9_putBack_31 rfl i108.1 rfl ?_
  refine R_aload_n (pc' := 33) dX9_putBack_32 rfl i108.1 rfl ?_
  refine Q_getfi (J := 33) (pc' := 36) rfl dX9_putBack_33 l_RX9_111 i108 fd9_33.1 fd9_33.2.1 fd9_33.2.2.1 rfl ?_
  refine Q_putfi (J := 4) (pc' := 39) rfl dX9_putBack_36 l_RX9_22 i108 fd9_4.1 fd9_4.2.1 fd9_4.2.2.2.1 fd9_4.2.2.2.2 rfl (fun c5 hc5 => ?_)
  have h := h c5 hc5
  refine R_iconst (pc' := 40) dX9_putBack_39 rfl ?_
  refine R_istore_n (L' := [_, _]) (pc' := 41) dX9_putBack_40 (by decide) rfl rfl rfl ?_
  exact WP_wk (wk_e (wk_e wk_n)) h
set_option maxRecDepth 100000 in
theorem s_X9_putBack_41 {K : SK} {d : Nat} {c : ct} {Q : ct → Prop} (a1 : Int) (h : (ir a1) ∧ (6 ≤ a1 → Q c) ∧ (¬ (6 ≤ a1) → ((0 ≤ a1 ∧ a1 < 6)) ∧ ((0 ≤ a1 ∧ a1 < 6)) ∧ ∀ c4 : ct, c4 = up2 c 111 a1 (c 125 a1) → ((0 ≤ a1 ∧ a1 < 6)) ∧ ((0 ≤ a1 ∧ a1 < 6)) ∧ ∀ c7 : ct, c7 = up2 c4 112 a1 (c4 126 a1) → WV K (d + 1) mX9_putBack 41 [(2, 108), (0, (a1 + 1))] [] c7 Q)) : WV K (d + 1) mX9_putBack 41 [(2, 108), (0, a1)] [] c Q := by
  refine R_iload_n (pc' := 42) dX9_putBack_41 rfl rfl ?_
  refine R_bipush (pc' := 44) dX9_putBack_42 (by decide) rfl ?_
  have hs2 := h.1
  have h := h.2
  refine R_icmp_ge (tgt := 77) (pc' := 47) dX9_putBack_44 (by decide) hs2 (ir_l (by decide) (by decide)) rfl (fun hc1 => ?_) (fun hc1 => ?_)
  · have h := h.1 hc1
    exact Q_ret dX9_putBack_77 rfl h
  · have h := h.2 hc1
    refine R_aload_n (pc' := 48) dX9_putBack_47 rfl i108.1 rfl ?_
    refine Q_getfr (v := 111) (J := 7) (pc' := 51) rfl dX9_putBack_48 l_RX9_32 i108 fd9_7.1 fd9_7.2.1 fd9_7.2.2.1 fd9_7.2.2.2 f108_7 rfl ?_
    refine R_iload_n (pc' := 52) dX9_putBack_51 rfl rfl ?_
    refine R_aload_n (pc' := 53) dX9_putBack_52 rfl i108.1 rfl ?_
    refine Q_getfr (v := 125) (J := 34) (pc' := 56) rfl dX9_putBack_53 l_RX9_114 i108 fd9_34.1 fd9_34.2.1 fd9_34.2.2.1 fd9_34.2.2.2 f108_34 rfl ?_
    refine R_iload_n (pc' := 57) dX9_putBack_56 rfl rfl ?_
    have hs3 := h.1
    have h := h.2
    refine Q_iaload (N := 6) (pc' := 58) rfl dX9_putBack_57 i125 (by decide) hs3 rfl ?_
    have hs5 := h.1
    have h := h.2
    refine Q_iastore (N := 6) (pc' := 59) rfl dX9_putBack_58 i111 (by decide) hs5  rfl (fun c4 hc4 => ?_)
    have h := h c4 hc4
    refine R_aload_n (pc' := 60) dX9_putBack_59 rfl i108.1 rfl ?_
    refine Q_getfr (v := 112) (J := 8) (pc' := 63) rfl dX9_putBack_60 l_RX9_35 i108 fd9_8.1 fd9_8.2.1 fd9_8.2.2.1 fd9_8.2.2.2 f108_8 rfl ?_
    refine R_iload_n (pc' := 64) dX9_putBack_63 rfl rfl ?_
    refine R_aload_n (pc' := 65) dX9_putBack_64 rfl i108.1 rfl ?_
    refine Q_getfr (v := 126) (J := 35) (pc' := 68) rfl dX9_putBack_65 l_RX9_117 i108 fd9_35.1 fd9_35.2.1 fd9_35.2.2.1 fd9_35.2.2.2 f108_35 rfl ?_
    refine R_iload_n (pc' := 69) dX9_putBack_68 rfl rfl ?_
    have hs6 := h.1
    have h := h.2
    refine Q_iaload (N := 6) (pc' := 70) rfl dX9_putBack_69 i126 (by decide) hs6 rfl ?_
    have hs8 := h.1
    have h := h.2
    refine Q_iastore (N := 6) (pc' := 71) rfl dX9_putBack_70 i112 (by decide) hs8  rfl (fun c7 hc7 => ?_)
    have h := h c7 hc7
    refine R_iinc (L' := [_, _]) (pc' := 74) dX9_putBack_71 rfl (by decide) rfl rfl rfl ?_
    refine R_goto (tgt := 41) dX9_putBack_74 (by decide) ?_
    exact WP_wk (wk_e (wk_e wk_n)) h
theorem e_X9_putBack {K : SK} {d : Nat} {c : ct} {Q : ct → Prop}  (h : WV K (d + 1) mX9_putBack 0 [(2, 108), (9, 0)] [] c Q) : CV K (d + 1) mX9_putBack [(2, 108)] c Q := CM_ofS (by decide) (Nat.le_of_ble_eq_true rfl) _ rfl h
set_option maxRecDepth 100000 in
theorem s_X9_usesMore_0 {K : SK} {d : Nat} {c : ct} {Q : ct → Int → Prop}  (h : WI K (d + 1) mX9_usesMore 4 [(2, 108), (0, 0), (0, 0)] [] c Q) : WI K (d + 1) mX9_usesMore 0 [(2, 108), (9, 0), (9, 0)] [] c Q := by
  refine R_iconst (pc' := 1) dX9_usesMore_0 rfl ?_
  refine R_istore_n (L' := [_, _, _]) (pc' := 2) dX9_usesMore_1 (by decide) rfl rfl rfl ?_
  refine R_iconst (pc' := 3) dX9_usesMore_2 rfl ?_
  refine R_istore_n (L' := [_, _, _]) (pc' := 4) dX9_usesMore_3 (by decide) rfl rfl rfl ?_
  exact WP_wk (wk_e (wk_e (wk_e wk_n))) h
set_option maxRecDepth 100000 in
theorem s_X9_usesMore_4 {K : SK} {d : Nat} {c : ct} {Q : ct → Int → Prop} (a1 : Int) (a2 : Int) (h : (ir a2 ∧ ir (c 108 0)) ∧ ((c 108 0) ≤ a2 → Q c a1) ∧ (¬ ((c 108 0) ≤ a2) → ((0 ≤ a2 ∧ a2 < 6)) ∧ ((0 ≤ a2 ∧ a2 < 6)) ∧ WI K (d + 1) mX9_usesMore 4 [(2, 108), (0, (a1 + ((c 112 a2) - (c 126 a2)))), (0, (a2 + 1))] [] c Q)) : WI K (d + 1) mX9_usesMore 4 [(2, 108), (0, a1), (0, a2)] [] c Q := by
  refine R_iload_n (pc' := 5) dX9_usesMore_4 rfl rfl ?_
  refine R_aload_n (pc' := 6) dX9_usesMore_5 rfl i108.1 rfl ?_
  refine Q_getfi (J := 0) (pc' := 9) rfl dX9_usesMore_6 l_RX9_7 i108 fd9_0.1 fd9_0.2.1 fd9_0.2.2.1 rfl ?_
  have hs2 := h.1
  have h := h.2
  refine R_icmp_ge (tgt := 34) (pc' := 12) dX9_usesMore_9 (by decide) hs2.1 hs2.2 rfl (fun hc1 => ?_) (fun hc1 => ?_)
  · have h := h.1 hc1
    refine R_iload_n (pc' := 35) dX9_usesMore_34 rfl rfl ?_
    exact Q_iret dX9_usesMore_35 rfl h
  · have h := h.2 hc1
    refine R_iload_n (pc' := 13) dX9_usesMore_12 rfl rfl ?_
    refine R_aload_n (pc' := 14) dX9_usesMore_13 rfl i108.1 rfl ?_
    refine Q_getfr (v := 112) (J := 8) (pc' := 17) rfl dX9_usesMore_14 l_RX9_35 i108 fd9_8.1 fd9_8.2.1 fd9_8.2.2.1 fd9_8.2.2.2 f108_8 rfl ?_
    refine R_iload_n (pc' := 18) dX9_usesMore_17 rfl rfl ?_
    have hs3 := h.1
    have h := h.2
    refine Q_iaload (N := 6) (pc' := 19) rfl dX9_usesMore_18 i112 (by decide) hs3 rfl ?_
    refine R_aload_n (pc' := 20) dX9_usesMore_19 rfl i108.1 rfl ?_
    refine Q_getfr (v := 126) (J := 35) (pc' := 23) rfl dX9_usesMore_20 l_RX9_117 i108 fd9_35.1 fd9_35.2.1 fd9_35.2.2.1 fd9_35.2.2.2 f108_35 rfl ?_
    refine R_iload_n (pc' := 24) dX9_usesMore_23 rfl rfl ?_
    have hs4 := h.1
    have h := h.2
    refine Q_iaload (N := 6) (pc' := 25) rfl dX9_usesMore_24 i126 (by decide) hs4 rfl ?_
    refine R_isub (pc' := 26) dX9_usesMore_25 rfl ?_
    refine R_iadd (pc' := 27) dX9_usesMore_26 rfl ?_
    refine R_istore_n (L' := [_, _, _]) (pc' := 28) dX9_usesMore_27 (by decide) rfl rfl rfl ?_
    refine R_iinc (L' := [_, _, _]) (pc' := 31) dX9_usesMore_28 rfl (by decide) rfl rfl rfl ?_
    refine R_goto (tgt := 4) dX9_usesMore_31 (by decide) ?_
    exact WP_wk (wk_e (wk_e (wk_e wk_n))) h
theorem e_X9_usesMore {K : SK} {d : Nat} {c : ct} {Q : ct → Int → Prop}  (h : WI K (d + 1) mX9_usesMore 0 [(2, 108), (9, 0), (9, 0)] [] c Q) : CI K (d + 1) mX9_usesMore [(2, 108)] c Q := CM_ofS (by decide) (Nat.le_of_ble_eq_true rfl) _ rfl h
set_option maxRecDepth 100000 in
theorem s_X9_on_0 {K : SK} {d : Nat} {c : ct} {Q : ct → Int → Prop} (a1 : Int) (a2 : Int) (h : CI K d mX9_in [(2, 108), (0, a2), (0, 0), (0, 1)] c (fun c1 r2 => (r2 = 0 → CI K d mX9_in [(2, 108), (0, a2), (0, 10), (0, (9 + (c1 108 0)))] c1 (fun c4 r5 => (r5 = 0 → Q c4 (-10001)) ∧ (¬ (r5 = 0) → ir r5 ∧ WI K (d + 1) mX9_on 31 [(2, 108), (0, a1), (0, a2), (9, 0)] [] c4 Q))) ∧ (¬ (r2 = 0) → ir r2 ∧ WI K (d + 1) mX9_on 31 [(2, 108), (0, a1), (0, a2), (9, 0)] [] c1 Q))) : WI K (d + 1) mX9_on 0 [(2, 108), (0, a1), (0, a2), (9, 0)] [] c Q := by
  refine R_aload_n (pc' := 1) dX9_on_0 rfl i108.1 rfl ?_
  refine R_iload_n (pc' := 2) dX9_on_1 rfl rfl ?_
  refine R_iconst (pc' := 3) dX9_on_2 rfl ?_
  refine R_iconst (pc' := 4) dX9_on_3 rfl ?_
  refine Q_callVI (vs := [(0, a2), (0, 0), (0, 1)]) (st := []) (pc' := 7) dX9_on_4 l_RX9_252 i108 (by decide) rfl rfl (Nat.le_of_ble_eq_true rfl) rfl (Nat.zero_le _) (Nat.zero_le _) rfl ?_
  refine CI.mono h (fun c1 r2 h => ?_)
  by_cases hc3 : r2 = 0
  · have h := h.1 hc3
    refine R_neS_if (tgt := 31) (pc' := 10) dX9_on_7 (by decide) hc3 rfl ?_
    refine R_aload_n (pc' := 11) dX9_on_10 rfl i108.1 rfl ?_
    refine R_iload_n (pc' := 12) dX9_on_11 rfl rfl ?_
    refine R_bipush (pc' := 14) dX9_on_12 (by decide) rfl ?_
    refine R_bipush (pc' := 16) dX9_on_14 (by decide) rfl ?_
    refine R_aload_n (pc' := 17) dX9_on_16 rfl i108.1 rfl ?_
    refine Q_getfi (J := 0) (pc' := 20) rfl dX9_on_17 l_RX9_7 i108 fd9_0.1 fd9_0.2.1 fd9_0.2.2.1 rfl ?_
    refine R_iadd (pc' := 21) dX9_on_20 rfl ?_
    refine Q_callVI (vs := [(0, a2), (0, 10), (0, (9 + (c1 108 0)))]) (st := []) (pc' := 24) dX9_on_21 l_RX9_252 i108 (by decide) rfl rfl (Nat.le_of_ble_eq_true rfl) rfl (Nat.zero_le _) (Nat.zero_le _) rfl ?_
    refine CI.mono h (fun c4 r5 h => ?_)
    by_cases hc6 : r5 = 0
    · have h := h.1 hc6
      refine R_neS_if (tgt := 31) (pc' := 27) dX9_on_24 (by decide) hc6 rfl ?_
      refine R_sipush (pc' := 30) dX9_on_27 (by decide) rfl ?_
      exact Q_iret dX9_on_30 rfl h
    · have h := h.2 hc6
      refine R_neD_if (tgt := 31) (pc' := 27) dX9_on_24 (by decide) hc6 h.1 rfl ?_
      have h := h.2
      exact WP_wk (wk_e (wk_e (wk_e (wk_u wk_n)))) h
  · have h := h.2 hc3
    refine R_neD_if (tgt := 31) (pc' := 10) dX9_on_7 (by decide) hc3 h.1 rfl ?_
    have h := h.2
    exact WP_wk (wk_e (wk_e (wk_e (wk_u wk_n)))) h
set_option maxRecDepth 100000 in
theorem s_X9_on_31 {K : SK} {d : Nat} {c : ct} {Q : ct → Int → Prop} (a1 : Int) (a2 : Int) (h : CI K d mX9_isYears [(2, 108), (0, a1)] c (fun c1 r2 => (r2 = 0 → Q c1 (-10002)) ∧ (¬ (r2 = 0) → ir r2 ∧ CV K d mX9_save [(2, 108)] c1 (fun c4 => CV K d mX9_goYears [(2, 108), (0, a1)] c4 (fun c6 => (a2 = 0 → CV K d mX9_putBack [(2, 108)] c6 (fun c9 => Q c9 (c6 108 2))) ∧ (¬ (a2 = 0) → ir a2 ∧ (a2 = 1 → CI K d mX9_usesMore [(2, 108)] c6 (fun c12 r13 => CV K d mX9_putBack [(2, 108)] c12 (fun c14 => Q c14 r13))) ∧ (¬ (a2 = 1) → ir a2 ∧ CI K d mX9_fond [(2, 108), (0, (a2 - 10))] c6 (fun c16 r17 => CV K d mX9_putBack [(2, 108)] c16 (fun c18 => Q c18 r17))))))))) : WI K (d + 1) mX9_on 31 [(2, 108), (0, a1), (0, a2), (9, 0)] [] c Q := by
  refine R_aload_n (pc' := 32) dX9_on_31 rfl i108.1 rfl ?_
  refine R_iload_n (pc' := 33) dX9_on_32 rfl rfl ?_
  refine Q_callVI (vs := [(0, a1)]) (st := []) (pc' := 36) dX9_on_33 l_RX9_398 i108 (by decide) rfl rfl (Nat.le_of_ble_eq_true rfl) rfl (Nat.zero_le _) (Nat.zero_le _) rfl ?_
  refine CI.mono h (fun c1 r2 h => ?_)
  by_cases hc3 : r2 = 0
  · have h := h.1 hc3
    refine R_neS_if (tgt := 43) (pc' := 39) dX9_on_36 (by decide) hc3 rfl ?_
    refine R_sipush (pc' := 42) dX9_on_39 (by decide) rfl ?_
    exact Q_iret dX9_on_42 rfl h
  · have h := h.2 hc3
    refine R_neD_if (tgt := 43) (pc' := 39) dX9_on_36 (by decide) hc3 h.1 rfl ?_
    have h := h.2
    refine R_aload_n (pc' := 44) dX9_on_43 rfl i108.1 rfl ?_
    refine Q_callVV (vs := []) (st := []) (pc' := 47) dX9_on_44 l_RX9_405 i108 (by decide) rfl rfl (Nat.le_of_ble_eq_true rfl) rfl (Nat.zero_le _) (Nat.zero_le _) rfl ?_
    refine CV.mono h (fun c4 h => ?_)
    refine R_aload_n (pc' := 48) dX9_on_47 rfl i108.1 rfl ?_
    refine R_iload_n (pc' := 49) dX9_on_48 rfl rfl ?_
    refine Q_callVV (vs := [(0, a1)]) (st := []) (pc' := 52) dX9_on_49 l_RX9_401 i108 (by decide) rfl rfl (Nat.le_of_ble_eq_true rfl) rfl (Nat.zero_le _) (Nat.zero_le _) rfl ?_
    refine CV.mono h (fun c6 h => ?_)
    refine R_iload_n (pc' := 53) dX9_on_52 rfl rfl ?_
    by_cases hc8 : a2 = 0
    · have h := h.1 hc8
      refine R_neS_if (tgt := 63) (pc' := 56) dX9_on_53 (by decide) hc8 rfl ?_
      refine R_aload_n (pc' := 57) dX9_on_56 rfl i108.1 rfl ?_
      refine Q_getfi (J := 2) (pc' := 60) rfl dX9_on_57 l_RX9_16 i108 fd9_2.1 fd9_2.2.1 fd9_2.2.2.1 rfl ?_
      refine R_goto (tgt := 83) dX9_on_60 (by decide) ?_
      refine R_istore_n (L' := [_, _, _, _]) (pc' := 84) dX9_on_83 (by decide) rfl rfl rfl ?_
      refine R_aload_n (pc' := 85) dX9_on_84 rfl i108.1 rfl ?_
      refine Q_callVV (vs := []) (st := []) (pc' := 88) dX9_on_85 l_RX9_411 i108 (by decide) rfl rfl (Nat.le_of_ble_eq_true rfl) rfl (Nat.zero_le _) (Nat.zero_le _) rfl ?_
      refine CV.mono h (fun c9 h => ?_)
      refine R_iload_n (pc' := 89) dX9_on_88 rfl rfl ?_
      exact Q_iret dX9_on_89 rfl h
    · have h := h.2 hc8
      refine R_neD_if (tgt := 63) (pc' := 56) dX9_on_53 (by decide) hc8 h.1 rfl ?_
      have h := h.2
      refine R_iload_n (pc' := 64) dX9_on_63 rfl rfl ?_
      refine R_iconst (pc' := 65) dX9_on_64 rfl ?_
      by_cases hc11 : a2 = 1
      · have h := h.1 hc11
        refine R_neS_ic (tgt := 75) (pc' := 68) dX9_on_65 (by decide) hc11 rfl ?_
        refine R_aload_n (pc' := 69) dX9_on_68 rfl i108.1 rfl ?_
        refine Q_callVI (vs := []) (st := []) (pc' := 72) dX9_on_69 l_RX9_408 i108 (by decide) rfl rfl (Nat.le_of_ble_eq_true rfl) rfl (Nat.zero_le _) (Nat.zero_le _) rfl ?_
        refine CI.mono h (fun c12 r13 h => ?_)
        refine R_goto (tgt := 83) dX9_on_72 (by decide) ?_
        refine R_istore_n (L' := [_, _, _, _]) (pc' := 84) dX9_on_83 (by decide) rfl rfl rfl ?_
        refine R_aload_n (pc' := 85) dX9_on_84 rfl i108.1 rfl ?_
        refine Q_callVV (vs := []) (st := []) (pc' := 88) dX9_on_85 l_RX9_411 i108 (by decide) rfl rfl (Nat.le_of_ble_eq_true rfl) rfl (Nat.zero_le _) (Nat.zero_le _) rfl ?_
        refine CV.mono h (fun c14 h => ?_)
        refine R_iload_n (pc' := 89) dX9_on_88 rfl rfl ?_
        exact Q_iret dX9_on_89 rfl h
      · have h := h.2 hc11
        refine R_neD_ic (tgt := 75) (pc' := 68) dX9_on_65 (by decide) hc11 ⟨h.1, ir_l (by decide) (by decide)⟩ rfl ?_
        have h := h.2
        refine R_aload_n (pc' := 76) dX9_on_75 rfl i108.1 rfl ?_
        refine R_iload_n (pc' := 77) dX9_on_76 rfl rfl ?_
        refine R_bipush (pc' := 79) dX9_on_77 (by decide) rfl ?_
        refine R_isub (pc' := 80) dX9_on_79 rfl ?_
        refine Q_callVI (vs := [(0, (a2 - 10))]) (st := []) (pc' := 83) dX9_on_80 l_RX9_275 i108 (by decide) rfl rfl (Nat.le_of_ble_eq_true rfl) rfl (Nat.zero_le _) (Nat.zero_le _) rfl ?_
        refine CI.mono h (fun c16 r17 h => ?_)
        refine R_istore_n (L' := [_, _, _, _]) (pc' := 84) dX9_on_83 (by decide) rfl rfl rfl ?_
        refine R_aload_n (pc' := 85) dX9_on_84 rfl i108.1 rfl ?_
        refine Q_callVV (vs := []) (st := []) (pc' := 88) dX9_on_85 l_RX9_411 i108 (by decide) rfl rfl (Nat.le_of_ble_eq_true rfl) rfl (Nat.zero_le _) (Nat.zero_le _) rfl ?_
        refine CV.mono h (fun c18 h => ?_)
        refine R_iload_n (pc' := 89) dX9_on_88 rfl rfl ?_
        exact Q_iret dX9_on_89 rfl h
theorem e_X9_on {K : SK} {d : Nat} {c : ct} {Q : ct → Int → Prop} (a1 : Int) (a2 : Int) (h : WI K (d + 1) mX9_on 0 [(2, 108), (0, a1), (0, a2), (9, 0)] [] c Q) : CI K (d + 1) mX9_on [(2, 108), (0, a1), (0, a2)] c Q := CM_ofS (by decide) (Nat.le_of_ble_eq_true rfl) _ rfl h
set_option maxRecDepth 100000 in
theorem s_X9_soon_0 {K : SK} {d : Nat} {c : ct} {Q : ct → Int → Prop} (a1 : Int) (h : CI K d mX9_in [(2, 108), (0, a1), (0, 0), (0, 6)] c (fun c1 r2 => (r2 = 0 → Q c1 (-2)) ∧ (¬ (r2 = 0) → ir r2 ∧ CV K d mX9_save [(2, 108)] c1 (fun c4 => WI K (d + 1) mX9_soon 20 [(2, 108), (0, a1), (0, 0)] [] c4 Q)))) : WI K (d + 1) mX9_soon 0 [(2, 108), (0, a1), (9, 0)] [] c Q := by
  refine R_aload_n (pc' := 1) dX9_soon_0 rfl i108.1 rfl ?_
  refine R_iload_n (pc' := 2) dX9_soon_1 rfl rfl ?_
  refine R_iconst (pc' := 3) dX9_soon_2 rfl ?_
  refine R_bipush (pc' := 5) dX9_soon_3 (by decide) rfl ?_
  refine Q_callVI (vs := [(0, a1), (0, 0), (0, 6)]) (st := []) (pc' := 8) dX9_soon_5 l_RX9_252 i108 (by decide) rfl rfl (Nat.le_of_ble_eq_true rfl) rfl (Nat.zero_le _) (Nat.zero_le _) rfl ?_
  refine CI.mono h (fun c1 r2 h => ?_)
  by_cases hc3 : r2 = 0
  · have h := h.1 hc3
    refine R_neS_if (tgt := 14) (pc' := 11) dX9_soon_8 (by decide) hc3 rfl ?_
    refine R_bipush (pc' := 13) dX9_soon_11 (by decide) rfl ?_
    exact Q_iret dX9_soon_13 rfl h
  · have h := h.2 hc3
    refine R_neD_if (tgt := 14) (pc' := 11) dX9_soon_8 (by decide) hc3 h.1 rfl ?_
    have h := h.2
    refine R_aload_n (pc' := 15) dX9_soon_14 rfl i108.1 rfl ?_
    refine Q_callVV (vs := []) (st := []) (pc' := 18) dX9_soon_15 l_RX9_405 i108 (by decide) rfl rfl (Nat.le_of_ble_eq_true rfl) rfl (Nat.zero_le _) (Nat.zero_le _) rfl ?_
    refine CV.mono h (fun c4 h => ?_)
    refine R_iconst (pc' := 19) dX9_soon_18 rfl ?_
    refine R_istore_n (L' := [_, _, _]) (pc' := 20) dX9_soon_19 (by decide) rfl rfl rfl ?_
    exact WP_wk (wk_e (wk_e (wk_e wk_n))) h
set_option maxRecDepth 100000 in
theorem s_X9_soon_20 {K : SK} {d : Nat} {c : ct} {Q : ct → Int → Prop} (a1 : Int) (a2 : Int) (h : (ir a2) ∧ (61 ≤ a2 → CV K d mX9_putBack [(2, 108)] c (fun c3 => (ir a2) ∧ (61 ≤ a2 → Q c3 (-5)) ∧ (¬ (61 ≤ a2) → Q c3 a2))) ∧ (¬ (61 ≤ a2) → CI K d mX9_bits [(2, 108), (0, (c 108 2))] c (fun c7 r8 => (ir r8 ∧ ir a1) ∧ (a1 ≤ r8 → CV K d mX9_putBack [(2, 108)] c7 (fun c11 => (ir a2) ∧ (61 ≤ a2 → Q c11 (-5)) ∧ (¬ (61 ≤ a2) → Q c11 a2))) ∧ (¬ (a1 ≤ r8) → CV K d mX9_goYear [(2, 108)] c7 (fun c15 => WI K (d + 1) mX9_soon 20 [(2, 108), (0, a1), (0, (a2 + 1))] [] c15 Q))))) : WI K (d + 1) mX9_soon 20 [(2, 108), (0, a1), (0, a2)] [] c Q := by
  refine R_iload_n (pc' := 21) dX9_soon_20 rfl rfl ?_
  refine R_bipush (pc' := 23) dX9_soon_21 (by decide) rfl ?_
  have hs2 := h.1
  have h := h.2
  refine R_icmp_ge (tgt := 48) (pc' := 26) dX9_soon_23 (by decide) hs2 (ir_l (by decide) (by decide)) rfl (fun hc1 => ?_) (fun hc1 => ?_)
  · have h := h.1 hc1
    refine R_aload_n (pc' := 49) dX9_soon_48 rfl i108.1 rfl ?_
    refine Q_callVV (vs := []) (st := []) (pc' := 52) dX9_soon_49 l_RX9_411 i108 (by decide) rfl rfl (Nat.le_of_ble_eq_true rfl) rfl (Nat.zero_le _) (Nat.zero_le _) rfl ?_
    refine CV.mono h (fun c3 h => ?_)
    refine R_iload_n (pc' := 53) dX9_soon_52 rfl rfl ?_
    refine R_bipush (pc' := 55) dX9_soon_53 (by decide) rfl ?_
    have hs6 := h.1
    have h := h.2
    refine R_icmp_ge (tgt := 62) (pc' := 58) dX9_soon_55 (by decide) hs6 (ir_l (by decide) (by decide)) rfl (fun hc5 => ?_) (fun hc5 => ?_)
    · have h := h.1 hc5
      refine R_bipush (pc' := 64) dX9_soon_62 (by decide) rfl ?_
      exact Q_iret dX9_soon_64 rfl h
    · have h := h.2 hc5
      refine R_iload_n (pc' := 59) dX9_soon_58 rfl rfl ?_
      refine R_goto (tgt := 64) dX9_soon_59 (by decide) ?_
      exact Q_iret dX9_soon_64 rfl h
  · have h := h.2 hc1
    refine R_aload_n (pc' := 27) dX9_soon_26 rfl i108.1 rfl ?_
    refine R_aload_n (pc' := 28) dX9_soon_27 rfl i108.1 rfl ?_
    refine Q_getfi (J := 2) (pc' := 31) rfl dX9_soon_28 l_RX9_16 i108 fd9_2.1 fd9_2.2.1 fd9_2.2.2.1 rfl ?_
    refine Q_callVI (vs := [(0, (c 108 2))]) (st := []) (pc' := 34) dX9_soon_31 l_RX9_282 i108 (by decide) rfl rfl (Nat.le_of_ble_eq_true rfl) rfl (Nat.zero_le _) (Nat.zero_le _) rfl ?_
    refine CI.mono h (fun c7 r8 h => ?_)
    refine R_iload_n (pc' := 35) dX9_soon_34 rfl rfl ?_
    have hs10 := h.1
    have h := h.2
    refine R_icmp_ge (tgt := 48) (pc' := 38) dX9_soon_35 (by decide) hs10.1 hs10.2 rfl (fun hc9 => ?_) (fun hc9 => ?_)
    · have h := h.1 hc9
      refine R_aload_n (pc' := 49) dX9_soon_48 rfl i108.1 rfl ?_
      refine Q_callVV (vs := []) (st := []) (pc' := 52) dX9_soon_49 l_RX9_411 i108 (by decide) rfl rfl (Nat.le_of_ble_eq_true rfl) rfl (Nat.zero_le _) (Nat.zero_le _) rfl ?_
      refine CV.mono h (fun c11 h => ?_)
      refine R_iload_n (pc' := 53) dX9_soon_52 rfl rfl ?_
      refine R_bipush (pc' := 55) dX9_soon_53 (by decide) rfl ?_
      have hs14 := h.1
      have h := h.2
      refine R_icmp_ge (tgt := 62) (pc' := 58) dX9_soon_55 (by decide) hs14 (ir_l (by decide) (by decide)) rfl (fun hc13 => ?_) (fun hc13 => ?_)
      · have h := h.1 hc13
        refine R_bipush (pc' := 64) dX9_soon_62 (by decide) rfl ?_
        exact Q_iret dX9_soon_64 rfl h
      · have h := h.2 hc13
        refine R_iload_n (pc' := 59) dX9_soon_58 rfl rfl ?_
        refine R_goto (tgt := 64) dX9_soon_59 (by decide) ?_
        exact Q_iret dX9_soon_64 rfl h
    · have h := h.2 hc9
      refine R_aload_n (pc' := 39) dX9_soon_38 rfl i108.1 rfl ?_
      refine Q_callVV (vs := []) (st := []) (pc' := 42) dX9_soon_39 l_RX9_395 i108 (by decide) rfl rfl (Nat.le_of_ble_eq_true rfl) rfl (Nat.zero_le _) (Nat.zero_le _) rfl ?_
      refine CV.mono h (fun c15 h => ?_)
      refine R_iinc (L' := [_, _, _]) (pc' := 45) dX9_soon_42 rfl (by decide) rfl rfl rfl ?_
      refine R_goto (tgt := 20) dX9_soon_45 (by decide) ?_
      exact WP_wk (wk_e (wk_e (wk_e wk_n))) h
theorem e_X9_soon {K : SK} {d : Nat} {c : ct} {Q : ct → Int → Prop} (a1 : Int) (h : WI K (d + 1) mX9_soon 0 [(2, 108), (0, a1), (9, 0)] [] c Q) : CI K (d + 1) mX9_soon [(2, 108), (0, a1)] c Q := CM_ofS (by decide) (Nat.le_of_ble_eq_true rfl) _ rfl h
set_option maxRecDepth 100000 in
theorem s_X9_layPlacing_0 {K : SK} {d : Nat} {c : ct} {Q : ct → Int → Prop} (a1 : Int) (h : WI K (d + 1) mX9_layPlacing 12 [(2, 108), (9, 0), (0, a1), (0, 0), (0, ((c 108 0) - 1))] [] c Q) : WI K (d + 1) mX9_layPlacing 0 [(2, 108), (0, a1), (9, 0), (9, 0), (9, 0)] [] c Q := by
  refine R_iload_n (pc' := 1) dX9_layPlacing_0 rfl rfl ?_
  refine R_istore_n (L' := [_, _, _, _, _]) (pc' := 2) dX9_layPlacing_1 (by decide) rfl rfl rfl ?_
  refine R_iconst (pc' := 3) dX9_layPlacing_2 rfl ?_
  refine R_istore_n (L' := [_, _, _, _, _]) (pc' := 4) dX9_layPlacing_3 (by decide) rfl rfl rfl ?_
  refine R_aload_n (pc' := 5) dX9_layPlacing_4 rfl i108.1 rfl ?_
  refine Q_getfi (J := 0) (pc' := 8) rfl dX9_layPlacing_5 l_RX9_7 i108 fd9_0.1 fd9_0.2.1 fd9_0.2.2.1 rfl ?_
  refine R_iconst (pc' := 9) dX9_layPlacing_8 rfl ?_
  refine R_isub (pc' := 10) dX9_layPlacing_9 rfl ?_
  refine R_istore (L' := [_, _, _, _, _]) (pc' := 12) dX9_layPlacing_10 (by decide) rfl rfl rfl ?_
  exact WP_wk (wk_e (wk_u (wk_e (wk_e (wk_e wk_n))))) h
set_option maxRecDepth 100000 in
theorem s_X9_layPlacing_12 {K : SK} {d : Nat} {c : ct} {Q : ct → Int → Prop} (a2 : Int) (a3 : Int) (a4 : Int) (h : (ir a4) ∧ (a4 < 0 → Q c 1) ∧ (¬ (a4 < 0) → (ir a2) ∧ ((0 ≤ a4 ∧ a4 < 6)) ∧ ∀ c4 : ct, c4 = up2 c 111 a4 (Int.tmod a2 6) → (ir a2) ∧ ((0 ≤ a4 ∧ a4 < 6)) ∧ CI K d mX9_has [(2, 108), (0, a3), (0, (c4 111 a4))] c4 (fun c8 r9 => (r9 = 0 → ((0 ≤ a4 ∧ a4 < 6)) ∧ WI K (d + 1) mX9_layPlacing 12 [(2, 108), (9, 0), (0, (Int.tdiv a2 6)), (0, (bOr a3 (bShl 1 (c8 111 a4)))), (0, (a4 + (-1)))] [] c8 Q) ∧ (¬ (r9 = 0) → ir r9 ∧ Q c8 0)))) : WI K (d + 1) mX9_layPlacing 12 [(2, 108), (9, 0), (0, a2), (0, a3), (0, a4)] [] c Q := by
  refine R_iload (pc' := 14) dX9_layPlacing_12 rfl rfl ?_
  have hs2 := h.1
  have h := h.2
  refine R_if_lt (tgt := 68) (pc' := 17) dX9_layPlacing_14 (by decide) hs2  rfl (fun hc1 => ?_) (fun hc1 => ?_)
  · have h := h.1 hc1
    refine R_iconst (pc' := 69) dX9_layPlacing_68 rfl ?_
    exact Q_zret dX9_layPlacing_69 rfl (Or.inr rfl) h
  · have h := h.2 hc1
    refine R_aload_n (pc' := 18) dX9_layPlacing_17 rfl i108.1 rfl ?_
    refine Q_getfr (v := 111) (J := 7) (pc' := 21) rfl dX9_layPlacing_18 l_RX9_32 i108 fd9_7.1 fd9_7.2.1 fd9_7.2.2.1 fd9_7.2.2.2 f108_7 rfl ?_
    refine R_iload (pc' := 23) dX9_layPlacing_21 rfl rfl ?_
    refine R_iload_n (pc' := 24) dX9_layPlacing_23 rfl rfl ?_
    refine R_bipush (pc' := 26) dX9_layPlacing_24 (by decide) rfl ?_
    have hs3 := h.1
    have h := h.2
    refine R_irem (pc' := 27) dX9_layPlacing_26 (by decide) hs3 (ir_l (by decide) (by decide)) rfl ?_
    have hs5 := h.1
    have h := h.2
    refine Q_iastore (N := 6) (pc' := 28) rfl dX9_layPlacing_27 i111 (by decide) hs5  rfl (fun c4 hc4 => ?_)
    have h := h c4 hc4
    refine R_iload_n (pc' := 29) dX9_layPlacing_28 rfl rfl ?_
    refine R_bipush (pc' := 31) dX9_layPlacing_29 (by decide) rfl ?_
    have hs6 := h.1
    have h := h.2
    refine R_idiv (pc' := 32) dX9_layPlacing_31 (by decide) hs6 (ir_l (by decide) (by decide)) rfl ?_
    refine R_istore_n (L' := [_, _, _, _, _]) (pc' := 33) dX9_layPlacing_32 (by decide) rfl rfl rfl ?_
    refine R_aload_n (pc' := 34) dX9_layPlacing_33 rfl i108.1 rfl ?_
    refine R_iload_n (pc' := 35) dX9_layPlacing_34 rfl rfl ?_
    refine R_aload_n (pc' := 36) dX9_layPlacing_35 rfl i108.1 rfl ?_
    refine Q_getfr (v := 111) (J := 7) (pc' := 39) rfl dX9_layPlacing_36 l_RX9_32 i108 fd9_7.1 fd9_7.2.1 fd9_7.2.2.1 fd9_7.2.2.2 f108_7 rfl ?_
    refine R_iload (pc' := 41) dX9_layPlacing_39 rfl rfl ?_
    have hs7 := h.1
    have h := h.2
    refine Q_iaload (N := 6) (pc' := 42) rfl dX9_layPlacing_41 i111 (by decide) hs7 rfl ?_
    refine Q_callVI (vs := [(0, a3), (0, (c4 111 a4))]) (st := []) (pc' := 45) dX9_layPlacing_42 l_RX9_248 i108 (by decide) rfl rfl (Nat.le_of_ble_eq_true rfl) rfl (Nat.zero_le _) (Nat.zero_le _) rfl ?_
    refine CI.mono h (fun c8 r9 h => ?_)
    by_cases hc10 : r9 = 0
    · have h := h.1 hc10
      refine R_eqS_if (tgt := 50) (pc' := 48) dX9_layPlacing_45 (by decide) hc10 rfl ?_
      refine R_iload_n (pc' := 51) dX9_layPlacing_50 rfl rfl ?_
      refine R_iconst (pc' := 52) dX9_layPlacing_51 rfl ?_
      refine R_aload_n (pc' := 53) dX9_layPlacing_52 rfl i108.1 rfl ?_
      refine Q_getfr (v := 111) (J := 7) (pc' := 56) rfl dX9_layPlacing_53 l_RX9_32 i108 fd9_7.1 fd9_7.2.1 fd9_7.2.2.1 fd9_7.2.2.2 f108_7 rfl ?_
      refine R_iload (pc' := 58) dX9_layPlacing_56 rfl rfl ?_
      have hs11 := h.1
      have h := h.2
      refine Q_iaload (N := 6) (pc' := 59) rfl dX9_layPlacing_58 i111 (by decide) hs11 rfl ?_
      refine R_ishl (pc' := 60) dX9_layPlacing_59 rfl ?_
      refine R_ior (pc' := 61) dX9_layPlacing_60 rfl ?_
      refine R_istore_n (L' := [_, _, _, _, _]) (pc' := 62) dX9_layPlacing_61 (by decide) rfl rfl rfl ?_
      refine R_iinc (L' := [_, _, _, _, _]) (pc' := 65) dX9_layPlacing_62 rfl (by decide) rfl rfl rfl ?_
      refine R_goto (tgt := 12) dX9_layPlacing_65 (by decide) ?_
      exact WP_wk (wk_e (wk_u (wk_e (wk_e (wk_e wk_n))))) h
    · have h := h.2 hc10
      refine R_eqD_if (tgt := 50) (pc' := 48) dX9_layPlacing_45 (by decide) hc10 h.1 rfl ?_
      have h := h.2
      refine R_iconst (pc' := 49) dX9_layPlacing_48 rfl ?_
      exact Q_zret dX9_layPlacing_49 rfl (Or.inl rfl) h
theorem e_X9_layPlacing {K : SK} {d : Nat} {c : ct} {Q : ct → Int → Prop} (a1 : Int) (h : WI K (d + 1) mX9_layPlacing 0 [(2, 108), (0, a1), (9, 0), (9, 0), (9, 0)] [] c Q) : CI K (d + 1) mX9_layPlacing [(2, 108), (0, a1)] c Q := CM_ofS (by decide) (Nat.le_of_ble_eq_true rfl) _ rfl h
set_option maxRecDepth 100000 in
theorem s_X9_layBest_0 {K : SK} {d : Nat} {c : ct} {Q : ct → Prop} (a1 : Int) (h : CV K d mX9_save [(2, 108)] c (fun c1 => CV K d mX9_layLikes [(2, 108)] c1 (fun c3 => WV K (d + 1) mX9_layBest 12 [(2, 108), (0, a1), (0, 1), (0, 0), (9, 0), (9, 0), (9, 0), (9, 0)] [] c3 Q))) : WV K (d + 1) mX9_layBest 0 [(2, 108), (0, a1), (9, 0), (9, 0), (9, 0), (9, 0), (9, 0), (9, 0)] [] c Q := by
  refine R_aload_n (pc' := 1) dX9_layBest_0 rfl i108.1 rfl ?_
  refine Q_callVV (vs := []) (st := []) (pc' := 4) dX9_layBest_1 l_RX9_405 i108 (by decide) rfl rfl (Nat.le_of_ble_eq_true rfl) rfl (Nat.zero_le _) (Nat.zero_le _) rfl ?_
  refine CV.mono h (fun c1 h => ?_)
  refine R_aload_n (pc' := 5) dX9_layBest_4 rfl i108.1 rfl ?_
  refine Q_callVV (vs := []) (st := []) (pc' := 8) dX9_layBest_5 l_RX9_358 i108 (by decide) rfl rfl (Nat.le_of_ble_eq_true rfl) rfl (Nat.zero_le _) (Nat.zero_le _) rfl ?_
  refine CV.mono h (fun c3 h => ?_)
  refine R_iconst (pc' := 9) dX9_layBest_8 rfl ?_
  refine R_istore_n (L' := [_, _, _, _, _, _, _, _]) (pc' := 10) dX9_layBest_9 (by decide) rfl rfl rfl ?_
  refine R_iconst (pc' := 11) dX9_layBest_10 rfl ?_
  refine R_istore_n (L' := [_, _, _, _, _, _, _, _]) (pc' := 12) dX9_layBest_11 (by decide) rfl rfl rfl ?_
  exact WP_wk (wk_e (wk_e (wk_e (wk_e (wk_u (wk_u (wk_u (wk_u wk_n)))))))) h
set_option maxRecDepth 100000 in
theorem s_X9_layBest_12 {K : SK} {d : Nat} {c : ct} {Q : ct → Prop} (a1 : Int) (a2 : Int) (a3 : Int) (h : (ir a3 ∧ ir (c 108 0)) ∧ ((c 108 0) ≤ a3 → WV K (d + 1) mX9_layBest 36 [(2, 108), (0, a1), (0, a2), (0, 0), (0, 0), (9, 0), (9, 0), (9, 0)] [] c Q) ∧ (¬ ((c 108 0) ≤ a3) → WV K (d + 1) mX9_layBest 12 [(2, 108), (0, a1), (0, (a2 * 6)), (0, (a3 + 1)), (9, 0), (9, 0), (9, 0), (9, 0)] [] c Q)) : WV K (d + 1) mX9_layBest 12 [(2, 108), (0, a1), (0, a2), (0, a3), (9, 0), (9, 0), (9, 0), (9, 0)] [] c Q := by
  refine R_iload_n (pc' := 13) dX9_layBest_12 rfl rfl ?_
  refine R_aload_n (pc' := 14) dX9_layBest_13 rfl i108.1 rfl ?_
  refine Q_getfi (J := 0) (pc' := 17) rfl dX9_layBest_14 l_RX9_7 i108 fd9_0.1 fd9_0.2.1 fd9_0.2.2.1 rfl ?_
  have hs2 := h.1
  have h := h.2
  refine R_icmp_ge (tgt := 31) (pc' := 20) dX9_layBest_17 (by decide) hs2.1 hs2.2 rfl (fun hc1 => ?_) (fun hc1 => ?_)
  · have h := h.1 hc1
    refine R_iconst (pc' := 32) dX9_layBest_31 rfl ?_
    refine R_istore_n (L' := [_, _, _, _, _, _, _, _]) (pc' := 33) dX9_layBest_32 (by decide) rfl rfl rfl ?_
    refine R_iconst (pc' := 34) dX9_layBest_33 rfl ?_
    refine R_istore (L' := [_, _, _, _, _, _, _, _]) (pc' := 36) dX9_layBest_34 (by decide) rfl rfl rfl ?_
    exact WP_wk (wk_e (wk_e (wk_e (wk_e (wk_e (wk_u (wk_u (wk_u wk_n)))))))) h
  · have h := h.2 hc1
    refine R_iload_n (pc' := 21) dX9_layBest_20 rfl rfl ?_
    refine R_bipush (pc' := 23) dX9_layBest_21 (by decide) rfl ?_
    refine R_imul (pc' := 24) dX9_layBest_23 rfl ?_
    refine R_istore_n (L' := [_, _, _, _, _, _, _, _]) (pc' := 25) dX9_layBest_24 (by decide) rfl rfl rfl ?_
    refine R_iinc (L' := [_, _, _, _, _, _, _, _]) (pc' := 28) dX9_layBest_25 rfl (by decide) rfl rfl rfl ?_
    refine R_goto (tgt := 12) dX9_layBest_28 (by decide) ?_
    exact WP_wk (wk_e (wk_e (wk_e (wk_e (wk_u (wk_u (wk_u (wk_u wk_n)))))))) h
set_option maxRecDepth 100000 in
theorem s_X9_layBest_36 {K : SK} {d : Nat} {c : ct} {Q : ct → Prop} (a1 : Int) (a2 : Int) (a3 : Int) (a4 : Int) (h : (ir a4 ∧ ir a2) ∧ (a2 ≤ a4 → CV K d mX9_putBack [(2, 108)] c (fun c3 => Q c3)) ∧ (¬ (a2 ≤ a4) → CI K d mX9_layPlacing [(2, 108), (0, a4)] c (fun c5 r6 => (r6 = 0 → WV K (d + 1) mX9_layBest 36 [(2, 108), (0, a1), (0, a2), (0, a3), (0, (a4 + 1)), (9, 0), (9, 0), (9, 0)] [] c5 Q) ∧ (¬ (r6 = 0) → ir r6 ∧ (a1 = 0 → CI K d mX9_allFondBy [(2, 108)] c5 (fun c9 r10 => (a3 = 0 → ∀ c12 : ct, c12 = up2 c9 108 37 0 → ∀ c13 : ct, c13 = up2 c12 108 38 r10 → WV K (d + 1) mX9_layBest 125 [(2, 108), (0, a1), (0, a2), (0, 1), (0, a4), (9, 0), (9, 0), (0, 0)] [] c13 Q) ∧ (¬ (a3 = 0) → ir a3 ∧ (ir (c9 108 37)) ∧ ((c9 108 37) < 0 → WV K (d + 1) mX9_layBest 36 [(2, 108), (0, a1), (0, a2), (0, a3), (0, (a4 + 1)), (9, 0), (9, 0), (9, 0)] [] c9 Q) ∧ (¬ ((c9 108 37) < 0) → (0 = (c9 108 37) → (ir r10 ∧ ir (c9 108 38)) ∧ ((c9 108 38) < r10 → ∀ c19 : ct, c19 = up2 c9 108 37 0 → ∀ c20 : ct, c20 = up2 c19 108 38 r10 → WV K (d + 1) mX9_layBest 125 [(2, 108), (0, a1), (0, a2), (0, 1), (0, a4), (9, 0), (9, 0), (0, 0)] [] c20 Q) ∧ (¬ ((c9 108 38) < r10) → WV K (d + 1) mX9_layBest 36 [(2, 108), (0, a1), (0, a2), (0, a3), (0, (a4 + 1)), (9, 0), (9, 0), (9, 0)] [] c9 Q)) ∧ (¬ (0 = (c9 108 37)) → ir (c9 108 37) ∧ ∀ c21 : ct, c21 = up2 c9 108 37 0 → ∀ c22 : ct, c22 = up2 c21 108 38 r10 → WV K (d + 1) mX9_layBest 125 [(2, 108), (0, a1), (0, a2), (0, 1), (0, a4), (9, 0), (9, 0), (0, 0)] [] c22 Q))))) ∧ (¬ (a1 = 0) → ir a1 ∧ CI K d mX9_clashesBy [(2, 108)] c5 (fun c23 r24 => CI K d mX9_allFondBy [(2, 108)] c23 (fun c25 r26 => (a3 = 0 → ∀ c28 : ct, c28 = up2 c25 108 37 r24 → ∀ c29 : ct, c29 = up2 c28 108 38 r26 → WV K (d + 1) mX9_layBest 125 [(2, 108), (0, a1), (0, a2), (0, 1), (0, a4), (9, 0), (9, 0), (0, 0)] [] c29 Q) ∧ (¬ (a3 = 0) → ir a3 ∧ (ir r24 ∧ ir (c25 108 37)) ∧ ((c25 108 37) < r24 → WV K (d + 1) mX9_layBest 36 [(2, 108), (0, a1), (0, a2), (0, a3), (0, (a4 + 1)), (9, 0), (9, 0), (9, 0)] [] c25 Q) ∧ (¬ ((c25 108 37) < r24) → (r24 = (c25 108 37) → (ir r26 ∧ ir (c25 108 38)) ∧ ((c25 108 38) < r26 → ∀ c35 : ct, c35 = up2 c25 108 37 r24 → ∀ c36 : ct, c36 = up2 c35 108 38 r26 → WV K (d + 1) mX9_layBest 125 [(2, 108), (0, a1), (0, a2), (0, 1), (0, a4), (9, 0), (9, 0), (0, 0)] [] c36 Q) ∧ (¬ ((c25 108 38) < r26) → WV K (d + 1) mX9_layBest 36 [(2, 108), (0, a1), (0, a2), (0, a3), (0, (a4 + 1)), (9, 0), (9, 0), (9, 0)] [] c25 Q)) ∧ (¬ (r24 = (c25 108 37)) → (ir r24 ∧ ir (c25 108 37)) ∧ ∀ c37 : ct, c37 = up2 c25 108 37 r24 → ∀ c38 : ct, c38 = up2 c37 108 38 r26 → WV K (d + 1) mX9_layBest 125 [(2, 108), (0, a1), (0, a2), (0, 1), (0, a4), (9, 0), (9, 0), (0, 0)] [] c38 Q)))))))))) : WV K (d + 1) mX9_layBest 36 [(2, 108), (0, a1), (0, a2), (0, a3), (0, a4), (9, 0), (9, 0), (9, 0)] [] c Q := by
  refine R_iload (pc' := 38) dX9_layBest_36 rfl rfl ?_
  refine R_iload_n (pc' := 39) dX9_layBest_38 rfl rfl ?_
  have hs2 := h.1
  have h := h.2
  refine R_icmp_ge (tgt := 158) (pc' := 42) dX9_layBest_39 (by decide) hs2.1 hs2.2 rfl (fun hc1 => ?_) (fun hc1 => ?_)
  · have h := h.1 hc1
    refine R_aload_n (pc' := 159) dX9_layBest_158 rfl i108.1 rfl ?_
    refine Q_callVV (vs := []) (st := []) (pc' := 162) dX9_layBest_159 l_RX9_411 i108 (by decide) rfl rfl (Nat.le_of_ble_eq_true rfl) rfl (Nat.zero_le _) (Nat.zero_le _) rfl ?_
    refine CV.mono h (fun c3 h => ?_)
    exact Q_ret dX9_layBest_162 rfl h
  · have h := h.2 hc1
    refine R_aload_n (pc' := 43) dX9_layBest_42 rfl i108.1 rfl ?_
    refine R_iload (pc' := 45) dX9_layBest_43 rfl rfl ?_
    refine Q_callVI (vs := [(0, a4)]) (st := []) (pc' := 48) dX9_layBest_45 l_RX9_414 i108 (by decide) rfl rfl (Nat.le_of_ble_eq_true rfl) rfl (Nat.zero_le _) (Nat.zero_le _) rfl ?_
    refine CI.mono h (fun c5 r6 h => ?_)
    by_cases hc7 : r6 = 0
    · have h := h.1 hc7
      refine R_neS_if (tgt := 54) (pc' := 51) dX9_layBest_48 (by decide) hc7 rfl ?_
      refine R_goto (tgt := 152) dX9_layBest_51 (by decide) ?_
      refine R_iinc (L' := [_, _, _, _, _, _, _, _]) (pc' := 155) dX9_layBest_152 rfl (by decide) rfl rfl rfl ?_
      refine R_goto (tgt := 36) dX9_layBest_155 (by decide) ?_
      exact WP_wk (wk_e (wk_e (wk_e (wk_e (wk_e (wk_u (wk_u (wk_u wk_n)))))))) h
    · have h := h.2 hc7
      refine R_neD_if (tgt := 54) (pc' := 51) dX9_layBest_48 (by decide) hc7 h.1 rfl ?_
      have h := h.2
      refine R_iload_n (pc' := 55) dX9_layBest_54 rfl rfl ?_
      by_cases hc8 : a1 = 0
      · have h := h.1 hc8
        refine R_eqS_if (tgt := 65) (pc' := 58) dX9_layBest_55 (by decide) hc8 rfl ?_
        refine R_iconst (pc' := 66) dX9_layBest_65 rfl ?_
        refine R_istore (L' := [_, _, _, _, _, _, _, _]) (pc' := 68) dX9_layBest_66 (by decide) rfl rfl rfl ?_
        refine R_aload_n (pc' := 69) dX9_layBest_68 rfl i108.1 rfl ?_
        refine Q_callVI (vs := []) (st := []) (pc' := 72) dX9_layBest_69 l_RX9_364 i108 (by decide) rfl rfl (Nat.le_of_ble_eq_true rfl) rfl (Nat.zero_le _) (Nat.zero_le _) rfl ?_
        refine CI.mono h (fun c9 r10 h => ?_)
        refine R_istore (L' := [_, _, _, _, _, _, _, _]) (pc' := 74) dX9_layBest_72 (by decide) rfl rfl rfl ?_
        refine R_iload_n (pc' := 75) dX9_layBest_74 rfl rfl ?_
        by_cases hc11 : a3 = 0
        · have h := h.1 hc11
          refine R_eqS_if (tgt := 108) (pc' := 78) dX9_layBest_75 (by decide) hc11 rfl ?_
          refine R_iconst (pc' := 109) dX9_layBest_108 rfl ?_
          refine R_istore_n (L' := [_, _, _, _, _, _, _, _]) (pc' := 110) dX9_layBest_109 (by decide) rfl rfl rfl ?_
          refine R_aload_n (pc' := 111) dX9_layBest_110 rfl i108.1 rfl ?_
          refine R_iload (pc' := 113) dX9_layBest_111 rfl rfl ?_
          refine Q_putfi (J := 37) (pc' := 116) rfl dX9_layBest_113 l_RX9_123 i108 fd9_37.1 fd9_37.2.1 fd9_37.2.2.2.1 fd9_37.2.2.2.2 rfl (fun c12 hc12 => ?_)
          have h := h c12 hc12
          refine R_aload_n (pc' := 117) dX9_layBest_116 rfl i108.1 rfl ?_
          refine R_iload (pc' := 119) dX9_layBest_117 rfl rfl ?_
          refine Q_putfi (J := 38) (pc' := 122) rfl dX9_layBest_119 l_RX9_126 i108 fd9_38.1 fd9_38.2.1 fd9_38.2.2.2.1 fd9_38.2.2.2.2 rfl (fun c13 hc13 => ?_)
          have h := h c13 hc13
          refine R_iconst (pc' := 123) dX9_layBest_122 rfl ?_
          refine R_istore (L' := [_, _, _, _, _, _, _, _]) (pc' := 125) dX9_layBest_123 (by decide) rfl rfl rfl ?_
          exact WP_wk (wk_e (wk_e (wk_e (wk_e (wk_e (wk_u (wk_u (wk_e wk_n)))))))) h
        · have h := h.2 hc11
          refine R_eqD_if (tgt := 108) (pc' := 78) dX9_layBest_75 (by decide) hc11 h.1 rfl ?_
          have h := h.2
          refine R_iload (pc' := 80) dX9_layBest_78 rfl rfl ?_
          refine R_aload_n (pc' := 81) dX9_layBest_80 rfl i108.1 rfl ?_
          refine Q_getfi (J := 37) (pc' := 84) rfl dX9_layBest_81 l_RX9_123 i108 fd9_37.1 fd9_37.2.1 fd9_37.2.2.1 rfl ?_
          have hs15 := h.1
          have h := h.2
          refine R_icmp_gt (tgt := 152) (pc' := 87) dX9_layBest_84 (by decide) (ir_l (by decide) (by decide)) hs15 rfl (fun hc14 => ?_) (fun hc14 => ?_)
          · have h := h.1 hc14
            refine R_iinc (L' := [_, _, _, _, _, _, _, _]) (pc' := 155) dX9_layBest_152 rfl (by decide) rfl rfl rfl ?_
            refine R_goto (tgt := 36) dX9_layBest_155 (by decide) ?_
            exact WP_wk (wk_e (wk_e (wk_e (wk_e (wk_e (wk_u (wk_u (wk_u wk_n)))))))) h
          · have h := h.2 hc14
            refine R_iload (pc' := 89) dX9_layBest_87 rfl rfl ?_
            refine R_aload_n (pc' := 90) dX9_layBest_89 rfl i108.1 rfl ?_
            refine Q_getfi (J := 37) (pc' := 93) rfl dX9_layBest_90 l_RX9_123 i108 fd9_37.1 fd9_37.2.1 fd9_37.2.2.1 rfl ?_
            by_cases hc16 : 0 = (c9 108 37)
            · have h := h.1 hc16
              refine R_neS_ic (tgt := 108) (pc' := 96) dX9_layBest_93 (by decide) hc16 rfl ?_
              refine R_iload (pc' := 98) dX9_layBest_96 rfl rfl ?_
              refine R_aload_n (pc' := 99) dX9_layBest_98 rfl i108.1 rfl ?_
              refine Q_getfi (J := 38) (pc' := 102) rfl dX9_layBest_99 l_RX9_126 i108 fd9_38.1 fd9_38.2.1 fd9_38.2.2.1 rfl ?_
              have hs18 := h.1
              have h := h.2
              refine R_icmp_gt (tgt := 108) (pc' := 105) dX9_layBest_102 (by decide) hs18.1 hs18.2 rfl (fun hc17 => ?_) (fun hc17 => ?_)
              · have h := h.1 hc17
                refine R_iconst (pc' := 109) dX9_layBest_108 rfl ?_
                refine R_istore_n (L' := [_, _, _, _, _, _, _, _]) (pc' := 110) dX9_layBest_109 (by decide) rfl rfl rfl ?_
                refine R_aload_n (pc' := 111) dX9_layBest_110 rfl i108.1 rfl ?_
                refine R_iload (pc' := 113) dX9_layBest_111 rfl rfl ?_
                refine Q_putfi (J := 37) (pc' := 116) rfl dX9_layBest_113 l_RX9_123 i108 fd9_37.1 fd9_37.2.1 fd9_37.2.2.2.1 fd9_37.2.2.2.2 rfl (fun c19 hc19 => ?_)
                have h := h c19 hc19
                refine R_aload_n (pc' := 117) dX9_layBest_116 rfl i108.1 rfl ?_
                refine R_iload (pc' := 119) dX9_layBest_117 rfl rfl ?_
                refine Q_putfi (J := 38) (pc' := 122) rfl dX9_layBest_119 l_RX9_126 i108 fd9_38.1 fd9_38.2.1 fd9_38.2.2.2.1 fd9_38.2.2.2.2 rfl (fun c20 hc20 => ?_)
                have h := h c20 hc20
                refine R_iconst (pc' := 123) dX9_layBest_122 rfl ?_
                refine R_istore (L' := [_, _, _, _, _, _, _, _]) (pc' := 125) dX9_layBest_123 (by decide) rfl rfl rfl ?_
                exact WP_wk (wk_e (wk_e (wk_e (wk_e (wk_e (wk_u (wk_u (wk_e wk_n)))))))) h
              · have h := h.2 hc17
                refine R_goto (tgt := 152) dX9_layBest_105 (by decide) ?_
                refine R_iinc (L' := [_, _, _, _, _, _, _, _]) (pc' := 155) dX9_layBest_152 rfl (by decide) rfl rfl rfl ?_
                refine R_goto (tgt := 36) dX9_layBest_155 (by decide) ?_
                exact WP_wk (wk_e (wk_e (wk_e (wk_e (wk_e (wk_u (wk_u (wk_u wk_n)))))))) h
            · have h := h.2 hc16
              refine R_neD_ic (tgt := 108) (pc' := 96) dX9_layBest_93 (by decide) hc16 ⟨ir_l (by decide) (by decide), h.1⟩ rfl ?_
              have h := h.2
              refine R_iconst (pc' := 109) dX9_layBest_108 rfl ?_
              refine R_istore_n (L' := [_, _, _, _, _, _, _, _]) (pc' := 110) dX9_layBest_109 (by decide) rfl rfl rfl ?_
              refine R_aload_n (pc' := 111) dX9_layBest_110 rfl i108.1 rfl ?_
              refine R_iload (pc' := 113) dX9_layBest_111 rfl rfl ?_
              refine Q_putfi (J := 37) (pc' := 116) rfl dX9_layBest_113 l_RX9_123 i108 fd9_37.1 fd9_37.2.1 fd9_37.2.2.2.1 fd9_37.2.2.2.2 rfl (fun c21 hc21 => ?_)
              have h := h c21 hc21
              refine R_aload_n (pc' := 117) dX9_layBest_116 rfl i108.1 rfl ?_
              refine R_iload (pc' := 119) dX9_layBest_117 rfl rfl ?_
              refine Q_putfi (J := 38) (pc' := 122) rfl dX9_layBest_119 l_RX9_126 i108 fd9_38.1 fd9_38.2.1 fd9_38.2.2.2.1 fd9_38.2.2.2.2 rfl (fun c22 hc22 => ?_)
              have h := h c22 hc22
              refine R_iconst (pc' := 123) dX9_layBest_122 rfl ?_
              refine R_istore (L' := [_, _, _, _, _, _, _, _]) (pc' := 125) dX9_layBest_123 (by decide) rfl rfl rfl ?_
              exact WP_wk (wk_e (wk_e (wk_e (wk_e (wk_e (wk_u (wk_u (wk_e wk_n)))))))) h
      · have h := h.2 hc8
        refine R_eqD_if (tgt := 65) (pc' := 58) dX9_layBest_55 (by decide) hc8 h.1 rfl ?_
        have h := h.2
        refine R_aload_n (pc' := 59) dX9_layBest_58 rfl i108.1 rfl ?_
        refine Q_callVI (vs := []) (st := []) (pc' := 62) dX9_layBest_59 l_RX9_367 i108 (by decide) rfl rfl (Nat.le_of_ble_eq_true rfl) rfl (Nat.zero_le _) (Nat.zero_le _) rfl ?_
        refine CI.mono h (fun c23 r24 h => ?_)
        refine R_goto (tgt := 66) dX9_layBest_62 (by decide) ?_
        refine R_istore (L' := [_, _, _, _, _, _, _, _]) (pc' := 68) dX9_layBest_66 (by decide) rfl rfl rfl ?_
        refine R_aload_n (pc' := 69) dX9_layBest_68 rfl i108.1 rfl ?_
        refine Q_callVI (vs := []) (st := []) (pc' := 72) dX9_layBest_69 l_RX9_364 i108 (by decide) rfl rfl (Nat.le_of_ble_eq_true rfl) rfl (Nat.zero_le _) (Nat.zero_le _) rfl ?_
        refine CI.mono h (fun c25 r26 h => ?_)
        refine R_istore (L' := [_, _, _, _, _, _, _, _]) (pc' := 74) dX9_layBest_72 (by decide) rfl rfl rfl ?_
        refine R_iload_n (pc' := 75) dX9_layBest_74 rfl rfl ?_
        by_cases hc27 : a3 = 0
        · have h := h.1 hc27
          refine R_eqS_if (tgt := 108) (pc' := 78) dX9_layBest_75 (by decide) hc27 rfl ?_
          refine R_iconst (pc' := 109) dX9_layBest_108 rfl ?_
          refine R_istore_n (L' := [_, _, _, _, _, _, _, _]) (pc' := 110) dX9_layBest_109 (by decide) rfl rfl rfl ?_
          refine R_aload_n (pc' := 111) dX9_layBest_110 rfl i108.1 rfl ?_
          refine R_iload (pc' := 113) dX9_layBest_111 rfl rfl ?_
          refine Q_putfi (J := 37) (pc' := 116) rfl dX9_layBest_113 l_RX9_123 i108 fd9_37.1 fd9_37.2.1 fd9_37.2.2.2.1 fd9_37.2.2.2.2 rfl (fun c28 hc28 => ?_)
          have h := h c28 hc28
          refine R_aload_n (pc' := 117) dX9_layBest_116 rfl i108.1 rfl ?_
          refine R_iload (pc' := 119) dX9_layBest_117 rfl rfl ?_
          refine Q_putfi (J := 38) (pc' := 122) rfl dX9_layBest_119 l_RX9_126 i108 fd9_38.1 fd9_38.2.1 fd9_38.2.2.2.1 fd9_38.2.2.2.2 rfl (fun c29 hc29 => ?_)
          have h := h c29 hc29
          refine R_iconst (pc' := 123) dX9_layBest_122 rfl ?_
          refine R_istore (L' := [_, _, _, _, _, _, _, _]) (pc' := 125) dX9_layBest_123 (by decide) rfl rfl rfl ?_
          exact WP_wk (wk_e (wk_e (wk_e (wk_e (wk_e (wk_u (wk_u (wk_e wk_n)))))))) h
        · have h := h.2 hc27
          refine R_eqD_if (tgt := 108) (pc' := 78) dX9_layBest_75 (by decide) hc27 h.1 rfl ?_
          have h := h.2
          refine R_iload (pc' := 80) dX9_layBest_78 rfl rfl ?_
          refine R_aload_n (pc' := 81) dX9_layBest_80 rfl i108.1 rfl ?_
          refine Q_getfi (J := 37) (pc' := 84) rfl dX9_layBest_81 l_RX9_123 i108 fd9_37.1 fd9_37.2.1 fd9_37.2.2.1 rfl ?_
          have hs31 := h.1
          have h := h.2
          refine R_icmp_gt (tgt := 152) (pc' := 87) dX9_layBest_84 (by decide) hs31.1 hs31.2 rfl (fun hc30 => ?_) (fun hc30 => ?_)
          · have h := h.1 hc30
            refine R_iinc (L' := [_, _, _, _, _, _, _, _]) (pc' := 155) dX9_layBest_152 rfl (by decide) rfl rfl rfl ?_
            refine R_goto (tgt := 36) dX9_layBest_155 (by decide) ?_
            exact WP_wk (wk_e (wk_e (wk_e (wk_e (wk_e (wk_u (wk_u (wk_u wk_n)))))))) h
          · have h := h.2 hc30
            refine R_iload (pc' := 89) dX9_layBest_87 rfl rfl ?_
            refine R_aload_n (pc' := 90) dX9_layBest_89 rfl i108.1 rfl ?_
            refine Q_getfi (J := 37) (pc' := 93) rfl dX9_layBest_90 l_RX9_123 i108 fd9_37.1 fd9_37.2.1 fd9_37.2.2.1 rfl ?_
            by_cases hc32 : r24 = (c25 108 37)
            · have h := h.1 hc32
              refine R_neS_ic (tgt := 108) (pc' := 96) dX9_layBest_93 (by decide) hc32 rfl ?_
              refine R_iload (pc' := 98) dX9_layBest_96 rfl rfl ?_
              refine R_aload_n (pc' := 99) dX9_layBest_98 rfl i108.1 rfl ?_
              refine Q_getfi (J := 38) (pc' := 102) rfl dX9_layBest_99 l_RX9_126 i108 fd9_38.1 fd9_38.2.1 fd9_38.2.2.1 rfl ?_
              have hs34 := h.1
              have h := h.2
              refine R_icmp_gt (tgt := 108) (pc' := 105) dX9_layBest_102 (by decide) hs34.1 hs34.2 rfl (fun hc33 => ?_) (fun hc33 => ?_)
              · have h := h.1 hc33
                refine R_iconst (pc' := 109) dX9_layBest_108 rfl ?_
                refine R_istore_n (L' := [_, _, _, _, _, _, _, _]) (pc' := 110) dX9_layBest_109 (by decide) rfl rfl rfl ?_
                refine R_aload_n (pc' := 111) dX9_layBest_110 rfl i108.1 rfl ?_
                refine R_iload (pc' := 113) dX9_layBest_111 rfl rfl ?_
                refine Q_putfi (J := 37) (pc' := 116) rfl dX9_layBest_113 l_RX9_123 i108 fd9_37.1 fd9_37.2.1 fd9_37.2.2.2.1 fd9_37.2.2.2.2 rfl (fun c35 hc35 => ?_)
                have h := h c35 hc35
                refine R_aload_n (pc' := 117) dX9_layBest_116 rfl i108.1 rfl ?_
                refine R_iload (pc' := 119) dX9_layBest_117 rfl rfl ?_
                refine Q_putfi (J := 38) (pc' := 122) rfl dX9_layBest_119 l_RX9_126 i108 fd9_38.1 fd9_38.2.1 fd9_38.2.2.2.1 fd9_38.2.2.2.2 rfl (fun c36 hc36 => ?_)
                have h := h c36 hc36
                refine R_iconst (pc' := 123) dX9_layBest_122 rfl ?_
                refine R_istore (L' := [_, _, _, _, _, _, _, _]) (pc' := 125) dX9_layBest_123 (by decide) rfl rfl rfl ?_
                exact WP_wk (wk_e (wk_e (wk_e (wk_e (wk_e (wk_u (wk_u (wk_e wk_n)))))))) h
              · have h := h.2 hc33
                refine R_goto (tgt := 152) dX9_layBest_105 (by decide) ?_
                refine R_iinc (L' := [_, _, _, _, _, _, _, _]) (pc' := 155) dX9_layBest_152 rfl (by decide) rfl rfl rfl ?_
                refine R_goto (tgt := 36) dX9_layBest_155 (by decide) ?_
                exact WP_wk (wk_e (wk_e (wk_e (wk_e (wk_e (wk_u (wk_u (wk_u wk_n)))))))) h
            · have h := h.2 hc32
              refine R_neD_ic (tgt := 108) (pc' := 96) dX9_layBest_93 (by decide) hc32 h.1 rfl ?_
              have h := h.2
              refine R_iconst (pc' := 109) dX9_layBest_108 rfl ?_
              refine R_istore_n (L' := [_, _, _, _, _, _, _, _]) (pc' := 110) dX9_layBest_109 (by decide) rfl rfl rfl ?_
              refine R_aload_n (pc' := 111) dX9_layBest_110 rfl i108.1 rfl ?_
              refine R_iload (pc' := 113) dX9_layBest_111 rfl rfl ?_
              refine Q_putfi (J := 37) (pc' := 116) rfl dX9_layBest_113 l_RX9_123 i108 fd9_37.1 fd9_37.2.1 fd9_37.2.2.2.1 fd9_37.2.2.2.2 rfl (fun c37 hc37 => ?_)
              have h := h c37 hc37
              refine R_aload_n (pc' := 117) dX9_layBest_116 rfl i108.1 rfl ?_
              refine R_iload (pc' := 119) dX9_layBest_117 rfl rfl ?_
              refine Q_putfi (J := 38) (pc' := 122) rfl dX9_layBest_119 l_RX9_126 i108 fd9_38.1 fd9_38.2.1 fd9_38.2.2.2.1 fd9_38.2.2.2.2 rfl (fun c38 hc38 => ?_)
              have h := h c38 hc38
              refine R_iconst (pc' := 123) dX9_layBest_122 rfl ?_
              refine R_istore (L' := [_, _, _, _, _, _, _, _]) (pc' := 125) dX9_layBest_123 (by decide) rfl rfl rfl ?_
              exact WP_wk (wk_e (wk_e (wk_e (wk_e (wk_e (wk_u (wk_u (wk_e wk_n)))))))) h
set_option maxRecDepth 100000 in
theorem s_X9_layBest_125 {K : SK} {d : Nat} {c : ct} {Q : ct → Prop} (a1 : Int) (a2 : Int) (a3 : Int) (a4 : Int) (a7 : Int) (h : (ir a7) ∧ (6 ≤ a7 → WV K (d + 1) mX9_layBest 36 [(2, 108), (0, a1), (0, a2), (0, a3), (0, (a4 + 1)), (9, 0), (9, 0), (9, 0)] [] c Q) ∧ (¬ (6 ≤ a7) → ((0 ≤ a7 ∧ a7 < 6)) ∧ ((0 ≤ a7 ∧ a7 < 6)) ∧ ∀ c4 : ct, c4 = up2 c 127 a7 (c 111 a7) → WV K (d + 1) mX9_layBest 125 [(2, 108), (0, a1), (0, a2), (0, a3), (0, a4), (9, 0), (9, 0), (0, (a7 + 1))] [] c4 Q)) : WV K (d + 1) mX9_layBest 125 [(2, 108), (0, a1), (0, a2), (0, a3), (0, a4), (9, 0), (9, 0), (0, a7)] [] c Q := by
  refine R_iload (pc' := 127) dX9_layBest_125 rfl rfl ?_
  refine R_bipush (pc' := 129) dX9_layBest_127 (by decide) rfl ?_
  have hs2 := h.1
  have h := h.2
  refine R_icmp_ge (tgt := 152) (pc' := 132) dX9_layBest_129 (by decide) hs2 (ir_l (by decide) (by decide)) rfl (fun hc1 => ?_) (fun hc1 => ?_)
  · have h := h.1 hc1
    refine R_iinc (L' := [_, _, _, _, _, _, _, _]) (pc' := 155) dX9_layBest_152 rfl (by decide) rfl rfl rfl ?_
    refine R_goto (tgt := 36) dX9_layBest_155 (by decide) ?_
    exact WP_wk (wk_e (wk_e (wk_e (wk_e (wk_e (wk_u (wk_u (wk_u wk_n)))))))) h
  · have h := h.2 hc1
    refine R_aload_n (pc' := 133) dX9_layBest_132 rfl i108.1 rfl ?_
    refine Q_getfr (v := 127) (J := 36) (pc' := 136) rfl dX9_layBest_133 l_RX9_120 i108 fd9_36.1 fd9_36.2.1 fd9_36.2.2.1 fd9_36.2.2.2 f108_36 rfl ?_
    refine R_iload (pc' := 138) dX9_layBest_136 rfl rfl ?_
    refine R_aload_n (pc' := 139) dX9_layBest_138 rfl i108.1 rfl ?_
    refine Q_getfr (v := 111) (J := 7) (pc' := 142) rfl dX9_layBest_139 l_RX9_32 i108 fd9_7.1 fd9_7.2.1 fd9_7.2.2.1 fd9_7.2.2.2 f108_7 rfl ?_
    refine R_iload (pc' := 144) dX9_layBest_142 rfl rfl ?_
    have hs3 := h.1
    have h := h.2
    refine Q_iaload (N := 6) (pc' := 145) rfl dX9_layBest_144 i111 (by decide) hs3 rfl ?_
    have hs5 := h.1
    have h := h.2
    refine Q_iastore (N := 6) (pc' := 146) rfl dX9_layBest_145 i127 (by decide) hs5  rfl (fun c4 hc4 => ?_)
    have h := h c4 hc4
    refine R_iinc (L' := [_, _, _, _, _, _, _, _]) (pc' := 149) dX9_layBest_146 rfl (by decide) rfl rfl rfl ?_
    refine R_goto (tgt := 125) dX9_layBest_149 (by decide) ?_
    exact WP_wk (wk_e (wk_e (wk_e (wk_e (wk_e (wk_u (wk_u (wk_e wk_n)))))))) h
theorem e_X9_layBest {K : SK} {d : Nat} {c : ct} {Q : ct → Prop} (a1 : Int) (h : WV K (d + 1) mX9_layBest 0 [(2, 108), (0, a1), (9, 0), (9, 0), (9, 0), (9, 0), (9, 0), (9, 0)] [] c Q) : CV K (d + 1) mX9_layBest [(2, 108), (0, a1)] c Q := CM_ofS (by decide) (Nat.le_of_ble_eq_true rfl) _ rfl h
set_option maxRecDepth 100000 in
theorem s_X9_best_0 {K : SK} {d : Nat} {c : ct} {Q : ct → Int → Prop} (a1 : Int) (h : (a1 = 0 → WI K (d + 1) mX9_best 25 [(2, 108), (0, a1)] [] c Q) ∧ (¬ (a1 = 0) → ir a1 ∧ CI K d mX9_in [(2, 108), (0, a1), (0, 10), (0, (9 + (c 108 0)))] c (fun c2 r3 => (r3 = 0 → Q c2 (-10001)) ∧ (¬ (r3 = 0) → ir r3 ∧ WI K (d + 1) mX9_best 25 [(2, 108), (0, a1)] [] c2 Q)))) : WI K (d + 1) mX9_best 0 [(2, 108), (0, a1)] [] c Q := by
  refine R_iload_n (pc' := 1) dX9_best_0 rfl rfl ?_
  by_cases hc1 : a1 = 0
  · have h := h.1 hc1
    refine R_eqS_if (tgt := 25) (pc' := 4) dX9_best_1 (by decide) hc1 rfl ?_
    exact WP_wk (wk_e (wk_e wk_n)) h
  · have h := h.2 hc1
    refine R_eqD_if (tgt := 25) (pc' := 4) dX9_best_1 (by decide) hc1 h.1 rfl ?_
    have h := h.2
    refine R_aload_n (pc' := 5) dX9_best_4 rfl i108.1 rfl ?_
    refine R_iload_n (pc' := 6) dX9_best_5 rfl rfl ?_
    refine R_bipush (pc' := 8) dX9_best_6 (by decide) rfl ?_
    refine R_bipush (pc' := 10) dX9_best_8 (by decide) rfl ?_
    refine R_aload_n (pc' := 11) dX9_best_10 rfl i108.1 rfl ?_
    refine Q_getfi (J := 0) (pc' := 14) rfl dX9_best_11 l_RX9_7 i108 fd9_0.1 fd9_0.2.1 fd9_0.2.2.1 rfl ?_
    refine R_iadd (pc' := 15) dX9_best_14 rfl ?_
    refine Q_callVI (vs := [(0, a1), (0, 10), (0, (9 + (c 108 0)))]) (st := []) (pc' := 18) dX9_best_15 l_RX9_252 i108 (by decide) rfl rfl (Nat.le_of_ble_eq_true rfl) rfl (Nat.zero_le _) (Nat.zero_le _) rfl ?_
    refine CI.mono h (fun c2 r3 h => ?_)
    by_cases hc4 : r3 = 0
    · have h := h.1 hc4
      refine R_neS_if (tgt := 25) (pc' := 21) dX9_best_18 (by decide) hc4 rfl ?_
      refine R_sipush (pc' := 24) dX9_best_21 (by decide) rfl ?_
      exact Q_iret dX9_best_24 rfl h
    · have h := h.2 hc4
      refine R_neD_if (tgt := 25) (pc' := 21) dX9_best_18 (by decide) hc4 h.1 rfl ?_
      have h := h.2
      exact WP_wk (wk_e (wk_e wk_n)) h
set_option maxRecDepth 100000 in
theorem s_X9_best_25 {K : SK} {d : Nat} {c : ct} {Q : ct → Int → Prop} (a1 : Int) (h : CV K d mX9_layBest [(2, 108), (0, 0)] c (fun c1 => (a1 = 0 → Q c1 (c1 108 38)) ∧ (¬ (a1 = 0) → ir a1 ∧ ((0 ≤ (a1 - 10) ∧ (a1 - 10) < 6)) ∧ Q c1 (c1 127 (a1 - 10))))) : WI K (d + 1) mX9_best 25 [(2, 108), (0, a1)] [] c Q := by
  refine R_aload_n (pc' := 26) dX9_best_25 rfl i108.1 rfl ?_
  refine R_iconst (pc' := 27) dX9_best_26 rfl ?_
  refine Q_callVV (vs := [(0, 0)]) (st := []) (pc' := 30) dX9_best_27 l_RX9_417 i108 (by decide) rfl rfl (Nat.le_of_ble_eq_true rfl) rfl (Nat.zero_le _) (Nat.zero_le _) rfl ?_
  refine CV.mono h (fun c1 h => ?_)
  refine R_iload_n (pc' := 31) dX9_best_30 rfl rfl ?_
  by_cases hc3 : a1 = 0
  · have h := h.1 hc3
    refine R_neS_if (tgt := 41) (pc' := 34) dX9_best_31 (by decide) hc3 rfl ?_
    refine R_aload_n (pc' := 35) dX9_best_34 rfl i108.1 rfl ?_
    refine Q_getfi (J := 38) (pc' := 38) rfl dX9_best_35 l_RX9_126 i108 fd9_38.1 fd9_38.2.1 fd9_38.2.2.1 rfl ?_
    refine R_goto (tgt := 50) dX9_best_38 (by decide) ?_
    exact Q_iret dX9_best_50 rfl h
  · have h := h.2 hc3
    refine R_neD_if (tgt := 41) (pc' := 34) dX9_best_31 (by decide) hc3 h.1 rfl ?_
    have h := h.2
    refine R_aload_n (pc' := 42) dX9_best_41 rfl i108.1 rfl ?_
    refine Q_getfr (v := 127) (J := 36) (pc' := 45) rfl dX9_best_42 l_RX9_120 i108 fd9_36.1 fd9_36.2.1 fd9_36.2.2.1 fd9_36.2.2.2 f108_36 rfl ?_
    refine R_iload_n (pc' := 46) dX9_best_45 rfl rfl ?_
    refine R_bipush (pc' := 48) dX9_best_46 (by decide) rfl ?_
    refine R_isub (pc' := 49) dX9_best_48 rfl ?_
    have hs4 := h.1
    have h := h.2
    refine Q_iaload (N := 6) (pc' := 50) rfl dX9_best_49 i127 (by decide) hs4 rfl ?_
    exact Q_iret dX9_best_50 rfl h
theorem e_X9_best {K : SK} {d : Nat} {c : ct} {Q : ct → Int → Prop} (a1 : Int) (h : WI K (d + 1) mX9_best 0 [(2, 108), (0, a1)] [] c Q) : CI K (d + 1) mX9_best [(2, 108), (0, a1)] c Q := CM_ofS (by decide) (Nat.le_of_ble_eq_true rfl) _ rfl h
set_option maxRecDepth 100000 in
theorem s_X9_peace_0 {K : SK} {d : Nat} {c : ct} {Q : ct → Int → Prop} (a1 : Int) (h : CI K d mX9_in [(2, 108), (0, a1), (0, 0), (0, 1)] c (fun c1 r2 => (r2 = 0 → CI K d mX9_in [(2, 108), (0, a1), (0, 10), (0, (9 + (c1 108 0)))] c1 (fun c4 r5 => (r5 = 0 → Q c4 (-10001)) ∧ (¬ (r5 = 0) → ir r5 ∧ WI K (d + 1) mX9_peace 31 [(2, 108), (0, a1)] [] c4 Q))) ∧ (¬ (r2 = 0) → ir r2 ∧ WI K (d + 1) mX9_peace 31 [(2, 108), (0, a1)] [] c1 Q))) : WI K (d + 1) mX9_peace 0 [(2, 108), (0, a1)] [] c Q := by
  refine R_aload_n (pc' := 1) dX9_peace_0 rfl i108.1 rfl ?_
  refine R_iload_n (pc' := 2) dX9_peace_1 rfl rfl ?_
  refine R_iconst (pc' := 3) dX9_peace_2 rfl ?_
  refine R_iconst (pc' := 4) dX9_peace_3 rfl ?_
  refine Q_callVI (vs := [(0, a1), (0, 0), (0, 1)]) (st := []) (pc' := 7) dX9_peace_4 l_RX9_252 i108 (by decide) rfl rfl (Nat.le_of_ble_eq_true rfl) rfl (Nat.zero_le _) (Nat.zero_le _) rfl ?_
  refine CI.mono h (fun c1 r2 h => ?_)
  by_cases hc3 : r2 = 0
  · have h := h.1 hc3
    refine R_neS_if (tgt := 31) (pc' := 10) dX9_peace_7 (by decide) hc3 rfl ?_
    refine R_aload_n (pc' := 11) dX9_peace_10 rfl i108.1 rfl ?_
    refine R_iload_n (pc' := 12) dX9_peace_11 rfl rfl ?_
    refine R_bipush (pc' := 14) dX9_peace_12 (by decide) rfl ?_
    refine R_bipush (pc' := 16) dX9_peace_14 (by decide) rfl ?_
    refine R_aload_n (pc' := 17) dX9_peace_16 rfl i108.1 rfl ?_
    refine Q_getfi (J := 0) (pc' := 20) rfl dX9_peace_17 l_RX9_7 i108 fd9_0.1 fd9_0.2.1 fd9_0.2.2.1 rfl ?_
    refine R_iadd (pc' := 21) dX9_peace_20 rfl ?_
    refine Q_callVI (vs := [(0, a1), (0, 10), (0, (9 + (c1 108 0)))]) (st := []) (pc' := 24) dX9_peace_21 l_RX9_252 i108 (by decide) rfl rfl (Nat.le_of_ble_eq_true rfl) rfl (Nat.zero_le _) (Nat.zero_le _) rfl ?_
    refine CI.mono h (fun c4 r5 h => ?_)
    by_cases hc6 : r5 = 0
    · have h := h.1 hc6
      refine R_neS_if (tgt := 31) (pc' := 27) dX9_peace_24 (by decide) hc6 rfl ?_
      refine R_sipush (pc' := 30) dX9_peace_27 (by decide) rfl ?_
      exact Q_iret dX9_peace_30 rfl h
    · have h := h.2 hc6
      refine R_neD_if (tgt := 31) (pc' := 27) dX9_peace_24 (by decide) hc6 h.1 rfl ?_
      have h := h.2
      exact WP_wk (wk_e (wk_e wk_n)) h
  · have h := h.2 hc3
    refine R_neD_if (tgt := 31) (pc' := 10) dX9_peace_7 (by decide) hc3 h.1 rfl ?_
    have h := h.2
    exact WP_wk (wk_e (wk_e wk_n)) h
set_option maxRecDepth 100000 in
theorem s_X9_peace_31 {K : SK} {d : Nat} {c : ct} {Q : ct → Int → Prop} (a1 : Int) (h : CV K d mX9_layBest [(2, 108), (0, 1)] c (fun c1 => (a1 = 0 → Q c1 (c1 108 37)) ∧ (¬ (a1 = 0) → ir a1 ∧ (a1 = 1 → Q c1 (c1 108 38)) ∧ (¬ (a1 = 1) → ir a1 ∧ ((0 ≤ (a1 - 10) ∧ (a1 - 10) < 6)) ∧ Q c1 (c1 127 (a1 - 10)))))) : WI K (d + 1) mX9_peace 31 [(2, 108), (0, a1)] [] c Q := by
  refine R_aload_n (pc' := 32) dX9_peace_31 rfl i108.1 rfl ?_
  refine R_iconst (pc' := 33) dX9_peace_32 rfl ?_
  refine Q_callVV (vs := [(0, 1)]) (st := []) (pc' := 36) dX9_peace_33 l_RX9_417 i108 (by decide) rfl rfl (Nat.le_of_ble_eq_true rfl) rfl (Nat.zero_le _) (Nat.zero_le _) rfl ?_
  refine CV.mono h (fun c1 h => ?_)
  refine R_iload_n (pc' := 37) dX9_peace_36 rfl rfl ?_
  by_cases hc3 : a1 = 0
  · have h := h.1 hc3
    refine R_neS_if (tgt := 47) (pc' := 40) dX9_peace_37 (by decide) hc3 rfl ?_
    refine R_aload_n (pc' := 41) dX9_peace_40 rfl i108.1 rfl ?_
    refine Q_getfi (J := 37) (pc' := 44) rfl dX9_peace_41 l_RX9_123 i108 fd9_37.1 fd9_37.2.1 fd9_37.2.2.1 rfl ?_
    refine R_goto (tgt := 68) dX9_peace_44 (by decide) ?_
    exact Q_iret dX9_peace_68 rfl h
  · have h := h.2 hc3
    refine R_neD_if (tgt := 47) (pc' := 40) dX9_peace_37 (by decide) hc3 h.1 rfl ?_
    have h := h.2
    refine R_iload_n (pc' := 48) dX9_peace_47 rfl rfl ?_
    refine R_iconst (pc' := 49) dX9_peace_48 rfl ?_
    by_cases hc4 : a1 = 1
    · have h := h.1 hc4
      refine R_neS_ic (tgt := 59) (pc' := 52) dX9_peace_49 (by decide) hc4 rfl ?_
      refine R_aload_n (pc' := 53) dX9_peace_52 rfl i108.1 rfl ?_
      refine Q_getfi (J := 38) (pc' := 56) rfl dX9_peace_53 l_RX9_126 i108 fd9_38.1 fd9_38.2.1 fd9_38.2.2.1 rfl ?_
      refine R_goto (tgt := 68) dX9_peace_56 (by decide) ?_
      exact Q_iret dX9_peace_68 rfl h
    · have h := h.2 hc4
      refine R_neD_ic (tgt := 59) (pc' := 52) dX9_peace_49 (by decide) hc4 ⟨h.1, ir_l (by decide) (by decide)⟩ rfl ?_
      have h := h.2
      refine R_aload_n (pc' := 60) dX9_peace_59 rfl i108.1 rfl ?_
      refine Q_getfr (v := 127) (J := 36) (pc' := 63) rfl dX9_peace_60 l_RX9_120 i108 fd9_36.1 fd9_36.2.1 fd9_36.2.2.1 fd9_36.2.2.2 f108_36 rfl ?_
      refine R_iload_n (pc' := 64) dX9_peace_63 rfl rfl ?_
      refine R_bipush (pc' := 66) dX9_peace_64 (by decide) rfl ?_
      refine R_isub (pc' := 67) dX9_peace_66 rfl ?_
      have hs5 := h.1
      have h := h.2
      refine Q_iaload (N := 6) (pc' := 68) rfl dX9_peace_67 i127 (by decide) hs5 rfl ?_
      exact Q_iret dX9_peace_68 rfl h
theorem e_X9_peace {K : SK} {d : Nat} {c : ct} {Q : ct → Int → Prop} (a1 : Int) (h : WI K (d + 1) mX9_peace 0 [(2, 108), (0, a1)] [] c Q) : CI K (d + 1) mX9_peace [(2, 108), (0, a1)] c Q := CM_ofS (by decide) (Nat.le_of_ble_eq_true rfl) _ rfl h
set_option maxRecDepth 100000 in
theorem s_X9_change_0 {K : SK} {d : Nat} {c : ct} {Q : ct → Int → Prop}  (h : CI K d mX9_allFond [(2, 108)] c (fun c1 r2 => WI K (d + 1) mX9_change 10 [(2, 108), (0, (-5)), (0, r2), (0, 0), (9, 0), (9, 0)] [] c1 Q)) : WI K (d + 1) mX9_change 0 [(2, 108), (9, 0), (9, 0), (9, 0), (9, 0), (9, 0)] [] c Q := by
  refine R_bipush (pc' := 2) dX9_change_0 (by decide) rfl ?_
  refine R_istore_n (L' := [_, _, _, _, _, _]) (pc' := 3) dX9_change_2 (by decide) rfl rfl rfl ?_
  refine R_aload_n (pc' := 4) dX9_change_3 rfl i108.1 rfl ?_
  refine Q_callVI (vs := []) (st := []) (pc' := 7) dX9_change_4 l_RX9_383 i108 (by decide) rfl rfl (Nat.le_of_ble_eq_true rfl) rfl (Nat.zero_le _) (Nat.zero_le _) rfl ?_
  refine CI.mono h (fun c1 r2 h => ?_)
  refine R_istore_n (L' := [_, _, _, _, _, _]) (pc' := 8) dX9_change_7 (by decide) rfl rfl rfl ?_
  refine R_iconst (pc' := 9) dX9_change_8 rfl ?_
  refine R_istore_n (L' := [_, _, _, _, _, _]) (pc' := 10) dX9_change_9 (by decide) rfl rfl rfl ?_
  exact WP_wk (wk_e (wk_e (wk_e (wk_e (wk_u (wk_u wk_n)))))) h
set_option maxRecDepth 100000 in
theorem s_X9_change_10 {K : SK} {d : Nat} {c : ct} {Q : ct → Int → Prop} (a1 : Int) (a2 : Int) (a3 : Int) (h : (ir a3 ∧ ir (c 108 0)) ∧ ((c 108 0) ≤ a3 → Q c a1) ∧ (¬ ((c 108 0) ≤ a3) → WI K (d + 1) mX9_change 23 [(2, 108), (0, a1), (0, a2), (0, a3), (0, (a3 + 1)), (9, 0)] [] c Q)) : WI K (d + 1) mX9_change 10 [(2, 108), (0, a1), (0, a2), (0, a3), (9, 0), (9, 0)] [] c Q := by
  refine R_iload_n (pc' := 11) dX9_change_10 rfl rfl ?_
  refine R_aload_n (pc' := 12) dX9_change_11 rfl i108.1 rfl ?_
  refine Q_getfi (J := 0) (pc' := 15) rfl dX9_change_12 l_RX9_7 i108 fd9_0.1 fd9_0.2.1 fd9_0.2.2.1 rfl ?_
  have hs2 := h.1
  have h := h.2
  refine R_icmp_ge (tgt := 90) (pc' := 18) dX9_change_15 (by decide) hs2.1 hs2.2 rfl (fun hc1 => ?_) (fun hc1 => ?_)
  · have h := h.1 hc1
    refine R_iload_n (pc' := 91) dX9_change_90 rfl rfl ?_
    exact Q_iret dX9_change_91 rfl h
  · have h := h.2 hc1
    refine R_iload_n (pc' := 19) dX9_change_18 rfl rfl ?_
    refine R_iconst (pc' := 20) dX9_change_19 rfl ?_
    refine R_iadd (pc' := 21) dX9_change_20 rfl ?_
    refine R_istore (L' := [_, _, _, _, _, _]) (pc' := 23) dX9_change_21 (by decide) rfl rfl rfl ?_
    exact WP_wk (wk_e (wk_e (wk_e (wk_e (wk_e (wk_u wk_n)))))) h
set_option maxRecDepth 100000 in
theorem s_X9_change_23 {K : SK} {d : Nat} {c : ct} {Q : ct → Int → Prop} (a1 : Int) (a2 : Int) (a3 : Int) (a4 : Int) (h : (ir a4 ∧ ir (c 108 0)) ∧ ((c 108 0) ≤ a4 → WI K (d + 1) mX9_change 10 [(2, 108), (0, a1), (0, a2), (0, (a3 + 1)), (9, 0), (9, 0)] [] c Q) ∧ (¬ ((c 108 0) ≤ a4) → CV K d mX9_save [(2, 108)] c (fun c3 => ((0 ≤ a4 ∧ a4 < 6)) ∧ CV K d mX9_takesSeat [(2, 108), (0, a3), (0, (c3 111 a4))] c3 (fun c6 => CI K d mX9_allFondBy [(2, 108)] c6 (fun c8 r9 => CV K d mX9_putBack [(2, 108)] c8 (fun c10 => (ir r9 ∧ ir a2) ∧ (a2 < r9 → WI K (d + 1) mX9_change 23 [(2, 108), (0, ((10 * a3) + a4)), (0, r9), (0, a3), (0, (a4 + 1)), (9, 0)] [] c10 Q) ∧ (¬ (a2 < r9) → WI K (d + 1) mX9_change 23 [(2, 108), (0, a1), (0, a2), (0, a3), (0, (a4 + 1)), (9, 0)] [] c10 Q))))))) : WI K (d + 1) mX9_change 23 [(2, 108), (0, a1), (0, a2), (0, a3), (0, a4), (9, 0)] [] c Q := by
  refine R_iload (pc' := 25) dX9_change_23 rfl rfl ?_
  refine R_aload_n (pc' := 26) dX9_change_25 rfl i108.1 rfl ?_
  refine Q_getfi (J := 0) (pc' := 29) rfl dX9_change_26 l_RX9_7 i108 fd9_0.1 fd9_0.2.1 fd9_0.2.2.1 rfl ?_
  have hs2 := h.1
  have h := h.2
  refine R_icmp_ge (tgt := 84) (pc' := 32) dX9_change_29 (by decide) hs2.1 hs2.2 rfl (fun hc1 => ?_) (fun hc1 => ?_)
  · have h := h.1 hc1
    refine R_iinc (L' := [_, _, _, _, _, _]) (pc' := 87) dX9_change_84 rfl (by decide) rfl rfl rfl ?_
    refine R_goto (tgt := 10) dX9_change_87 (by decide) ?_
    exact WP_wk (wk_e (wk_e (wk_e (wk_e (wk_u (wk_u wk_n)))))) h
  · have h := h.2 hc1
    refine R_aload_n (pc' := 33) dX9_change_32 rfl i108.1 rfl ?_
    refine Q_callVV (vs := []) (st := []) (pc' := 36) dX9_change_33 l_RX9_405 i108 (by decide) rfl rfl (Nat.le_of_ble_eq_true rfl) rfl (Nat.zero_le _) (Nat.zero_le _) rfl ?_
    refine CV.mono h (fun c3 h => ?_)
    refine R_aload_n (pc' := 37) dX9_change_36 rfl i108.1 rfl ?_
    refine R_iload_n (pc' := 38) dX9_change_37 rfl rfl ?_
    refine R_aload_n (pc' := 39) dX9_change_38 rfl i108.1 rfl ?_
    refine Q_getfr (v := 111) (J := 7) (pc' := 42) rfl dX9_change_39 l_RX9_32 i108 fd9_7.1 fd9_7.2.1 fd9_7.2.2.1 fd9_7.2.2.2 f108_7 rfl ?_
    refine R_iload (pc' := 44) dX9_change_42 rfl rfl ?_
    have hs5 := h.1
    have h := h.2
    refine Q_iaload (N := 6) (pc' := 45) rfl dX9_change_44 i111 (by decide) hs5 rfl ?_
    refine Q_callVV (vs := [(0, a3), (0, (c3 111 a4))]) (st := []) (pc' := 48) dX9_change_45 l_RX9_271 i108 (by decide) rfl rfl (Nat.le_of_ble_eq_true rfl) rfl (Nat.zero_le _) (Nat.zero_le _) rfl ?_
    refine CV.mono h (fun c6 h => ?_)
    refine R_aload_n (pc' := 49) dX9_change_48 rfl i108.1 rfl ?_
    refine Q_callVI (vs := []) (st := []) (pc' := 52) dX9_change_49 l_RX9_364 i108 (by decide) rfl rfl (Nat.le_of_ble_eq_true rfl) rfl (Nat.zero_le _) (Nat.zero_le _) rfl ?_
    refine CI.mono h (fun c8 r9 h => ?_)
    refine R_istore (L' := [_, _, _, _, _, _]) (pc' := 54) dX9_change_52 (by decide) rfl rfl rfl ?_
    refine R_aload_n (pc' := 55) dX9_change_54 rfl i108.1 rfl ?_
    refine Q_callVV (vs := []) (st := []) (pc' := 58) dX9_change_55 l_RX9_411 i108 (by decide) rfl rfl (Nat.le_of_ble_eq_true rfl) rfl (Nat.zero_le _) (Nat.zero_le _) rfl ?_
    refine CV.mono h (fun c10 h => ?_)
    refine R_iload (pc' := 60) dX9_change_58 rfl rfl ?_
    refine R_iload_n (pc' := 61) dX9_change_60 rfl rfl ?_
    have hs13 := h.1
    have h := h.2
    refine R_icmp_gt (tgt := 67) (pc' := 64) dX9_change_61 (by decide) hs13.1 hs13.2 rfl (fun hc12 => ?_) (fun hc12 => ?_)
    · have h := h.1 hc12
      refine R_bipush (pc' := 69) dX9_change_67 (by decide) rfl ?_
      refine R_iload_n (pc' := 70) dX9_change_69 rfl rfl ?_
      refine R_imul (pc' := 71) dX9_change_70 rfl ?_
      refine R_iload (pc' := 73) dX9_change_71 rfl rfl ?_
      refine R_iadd (pc' := 74) dX9_change_73 rfl ?_
      refine R_istore_n (L' := [_, _, _, _, _, _]) (pc' := 75) dX9_change_74 (by decide) rfl rfl rfl ?_
      refine R_iload (pc' := 77) dX9_change_75 rfl rfl ?_
      refine R_istore_n (L' := [_, _, _, _, _, _]) (pc' := 78) dX9_change_77 (by decide) rfl rfl rfl ?_
      refine R_iinc (L' := [_, _, _, _, _, _]) (pc' := 81) dX9_change_78 rfl (by decide) rfl rfl rfl ?_
      refine R_goto (tgt := 23) dX9_change_81 (by decide) ?_
      exact WP_wk (wk_e (wk_e (wk_e (wk_e (wk_e (wk_u wk_n)))))) h
    · have h := h.2 hc12
      refine R_goto (tgt := 78) dX9_change_64 (by decide) ?_
      refine R_iinc (L' := [_, _, _, _, _, _]) (pc' := 81) dX9_change_78 rfl (by decide) rfl rfl rfl ?_
      refine R_goto (tgt := 23) dX9_change_81 (by decide) ?_
      exact WP_wk (wk_e (wk_e (wk_e (wk_e (wk_e (wk_u wk_n)))))) h
theorem e_X9_change {K : SK} {d : Nat} {c : ct} {Q : ct → Int → Prop}  (h : WI K (d + 1) mX9_change 0 [(2, 108), (9, 0), (9, 0), (9, 0), (9, 0), (9, 0)] [] c Q) : CI K (d + 1) mX9_change [(2, 108)] c Q := CM_ofS (by decide) (Nat.le_of_ble_eq_true rfl) _ rfl h
set_option maxRecDepth 100000 in
theorem s_X9_seat_0 {K : SK} {d : Nat} {c : ct} {Q : ct → Int → Prop} (a1 : Int) (h : CI K d mX9_isGuest [(2, 108), (0, a1)] c (fun c1 r2 => (r2 = 0 → Q c1 (-1)) ∧ (¬ (r2 = 0) → ir r2 ∧ CV K d mX9_layLikes [(2, 108)] c1 (fun c4 => WI K (d + 1) mX9_seat 22 [(2, 108), (0, a1), (0, (-5)), (0, 0), (0, 0), (9, 0)] [] c4 Q)))) : WI K (d + 1) mX9_seat 0 [(2, 108), (0, a1), (9, 0), (9, 0), (9, 0), (9, 0)] [] c Q := by
  refine R_aload_n (pc' := 1) dX9_seat_0 rfl i108.1 rfl ?_
  refine R_iload_n (pc' := 2) dX9_seat_1 rfl rfl ?_
  refine Q_callVI (vs := [(0, a1)]) (st := []) (pc' := 5) dX9_seat_2 l_RX9_260 i108 (by decide) rfl rfl (Nat.le_of_ble_eq_true rfl) rfl (Nat.zero_le _) (Nat.zero_le _) rfl ?_
  refine CI.mono h (fun c1 r2 h => ?_)
  by_cases hc3 : r2 = 0
  · have h := h.1 hc3
    refine R_neS_if (tgt := 10) (pc' := 8) dX9_seat_5 (by decide) hc3 rfl ?_
    refine R_iconst (pc' := 9) dX9_seat_8 rfl ?_
    exact Q_iret dX9_seat_9 rfl h
  · have h := h.2 hc3
    refine R_neD_if (tgt := 10) (pc' := 8) dX9_seat_5 (by decide) hc3 h.1 rfl ?_
    have h := h.2
    refine R_aload_n (pc' := 11) dX9_seat_10 rfl i108.1 rfl ?_
    refine Q_callVV (vs := []) (st := []) (pc' := 14) dX9_seat_11 l_RX9_358 i108 (by decide) rfl rfl (Nat.le_of_ble_eq_true rfl) rfl (Nat.zero_le _) (Nat.zero_le _) rfl ?_
    refine CV.mono h (fun c4 h => ?_)
    refine R_bipush (pc' := 16) dX9_seat_14 (by decide) rfl ?_
    refine R_istore_n (L' := [_, _, _, _, _, _]) (pc' := 17) dX9_seat_16 (by decide) rfl rfl rfl ?_
    refine R_iconst (pc' := 18) dX9_seat_17 rfl ?_
    refine R_istore_n (L' := [_, _, _, _, _, _]) (pc' := 19) dX9_seat_18 (by decide) rfl rfl rfl ?_
    refine R_iconst (pc' := 20) dX9_seat_19 rfl ?_
    refine R_istore (L' := [_, _, _, _, _, _]) (pc' := 22) dX9_seat_20 (by decide) rfl rfl rfl ?_
    exact WP_wk (wk_e (wk_e (wk_e (wk_e (wk_e (wk_u wk_n)))))) h
set_option maxRecDepth 100000 in
theorem s_X9_seat_22 {K : SK} {d : Nat} {c : ct} {Q : ct → Int → Prop} (a1 : Int) (a2 : Int) (a3 : Int) (a4 : Int) (h : (ir a4) ∧ (6 ≤ a4 → Q c a2) ∧ (¬ (6 ≤ a4) → CV K d mX9_save [(2, 108)] c (fun c3 => CV K d mX9_takesSeat [(2, 108), (0, a1), (0, a4)] c3 (fun c5 => CI K d mX9_fondBy [(2, 108), (0, a1)] c5 (fun c7 r8 => CV K d mX9_putBack [(2, 108)] c7 (fun c9 => (ir a2) ∧ (a2 < 0 → WI K (d + 1) mX9_seat 22 [(2, 108), (0, a1), (0, a4), (0, r8), (0, (a4 + 1)), (9, 0)] [] c9 Q) ∧ (¬ (a2 < 0) → (ir r8 ∧ ir a3) ∧ (a3 < r8 → WI K (d + 1) mX9_seat 22 [(2, 108), (0, a1), (0, a4), (0, r8), (0, (a4 + 1)), (9, 0)] [] c9 Q) ∧ (¬ (a3 < r8) → WI K (d + 1) mX9_seat 22 [(2, 108), (0, a1), (0, a2), (0, a3), (0, (a4 + 1)), (9, 0)] [] c9 Q)))))))) : WI K (d + 1) mX9_seat 22 [(2, 108), (0, a1), (0, a2), (0, a3), (0, a4), (9, 0)] [] c Q := by
  refine R_iload (pc' := 24) dX9_seat_22 rfl rfl ?_
  refine R_bipush (pc' := 26) dX9_seat_24 (by decide) rfl ?_
  have hs2 := h.1
  have h := h.2
  refine R_icmp_ge (tgt := 76) (pc' := 29) dX9_seat_26 (by decide) hs2 (ir_l (by decide) (by decide)) rfl (fun hc1 => ?_) (fun hc1 => ?_)
  · have h := h.1 hc1
    refine R_iload_n (pc' := 77) dX9_seat_76 rfl rfl ?_
    exact Q_iret dX9_seat_77 rfl h
  · have h := h.2 hc1
    refine R_aload_n (pc' := 30) dX9_seat_29 rfl i108.1 rfl ?_
    refine Q_callVV (vs := []) (st := []) (pc' := 33) dX9_seat_30 l_RX9_405 i108 (by decide) rfl rfl (Nat.le_of_ble_eq_true rfl) rfl (Nat.zero_le _) (Nat.zero_le _) rfl ?_
    refine CV.mono h (fun c3 h => ?_)
    refine R_aload_n (pc' := 34) dX9_seat_33 rfl i108.1 rfl ?_
    refine R_iload_n (pc' := 35) dX9_seat_34 rfl rfl ?_
    refine R_iload (pc' := 37) dX9_seat_35 rfl rfl ?_
    refine Q_callVV (vs := [(0, a1), (0, a4)]) (st := []) (pc' := 40) dX9_seat_37 l_RX9_271 i108 (by decide) rfl rfl (Nat.le_of_ble_eq_true rfl) rfl (Nat.zero_le _) (Nat.zero_le _) rfl ?_
    refine CV.mono h (fun c5 h => ?_)
    refine R_aload_n (pc' := 41) dX9_seat_40 rfl i108.1 rfl ?_
    refine R_iload_n (pc' := 42) dX9_seat_41 rfl rfl ?_
    refine Q_callVI (vs := [(0, a1)]) (st := []) (pc' := 45) dX9_seat_42 l_RX9_361 i108 (by decide) rfl rfl (Nat.le_of_ble_eq_true rfl) rfl (Nat.zero_le _) (Nat.zero_le _) rfl ?_
    refine CI.mono h (fun c7 r8 h => ?_)
    refine R_istore (L' := [_, _, _, _, _, _]) (pc' := 47) dX9_seat_45 (by decide) rfl rfl rfl ?_
    refine R_aload_n (pc' := 48) dX9_seat_47 rfl i108.1 rfl ?_
    refine Q_callVV (vs := []) (st := []) (pc' := 51) dX9_seat_48 l_RX9_411 i108 (by decide) rfl rfl (Nat.le_of_ble_eq_true rfl) rfl (Nat.zero_le _) (Nat.zero_le _) rfl ?_
    refine CV.mono h (fun c9 h => ?_)
    refine R_iload_n (pc' := 52) dX9_seat_51 rfl rfl ?_
    have hs12 := h.1
    have h := h.2
    refine R_if_lt (tgt := 64) (pc' := 55) dX9_seat_52 (by decide) hs12  rfl (fun hc11 => ?_) (fun hc11 => ?_)
    · have h := h.1 hc11
      refine R_iload (pc' := 66) dX9_seat_64 rfl rfl ?_
      refine R_istore_n (L' := [_, _, _, _, _, _]) (pc' := 67) dX9_seat_66 (by decide) rfl rfl rfl ?_
      refine R_iload (pc' := 69) dX9_seat_67 rfl rfl ?_
      refine R_istore_n (L' := [_, _, _, _, _, _]) (pc' := 70) dX9_seat_69 (by decide) rfl rfl rfl ?_
      refine R_iinc (L' := [_, _, _, _, _, _]) (pc' := 73) dX9_seat_70 rfl (by decide) rfl rfl rfl ?_
      refine R_goto (tgt := 22) dX9_seat_73 (by decide) ?_
      exact WP_wk (wk_e (wk_e (wk_e (wk_e (wk_e (wk_u wk_n)))))) h
    · have h := h.2 hc11
      refine R_iload (pc' := 57) dX9_seat_55 rfl rfl ?_
      refine R_iload_n (pc' := 58) dX9_seat_57 rfl rfl ?_
      have hs14 := h.1
      have h := h.2
      refine R_icmp_gt (tgt := 64) (pc' := 61) dX9_seat_58 (by decide) hs14.1 hs14.2 rfl (fun hc13 => ?_) (fun hc13 => ?_)
      · have h := h.1 hc13
        refine R_iload (pc' := 66) dX9_seat_64 rfl rfl ?_
        refine R_istore_n (L' := [_, _, _, _, _, _]) (pc' := 67) dX9_seat_66 (by decide) rfl rfl rfl ?_
        refine R_iload (pc' := 69) dX9_seat_67 rfl rfl ?_
        refine R_istore_n (L' := [_, _, _, _, _, _]) (pc' := 70) dX9_seat_69 (by decide) rfl rfl rfl ?_
        refine R_iinc (L' := [_, _, _, _, _, _]) (pc' := 73) dX9_seat_70 rfl (by decide) rfl rfl rfl ?_
        refine R_goto (tgt := 22) dX9_seat_73 (by decide) ?_
        exact WP_wk (wk_e (wk_e (wk_e (wk_e (wk_e (wk_u wk_n)))))) h
      · have h := h.2 hc13
        refine R_goto (tgt := 70) dX9_seat_61 (by decide) ?_
        refine R_iinc (L' := [_, _, _, _, _, _]) (pc' := 73) dX9_seat_70 rfl (by decide) rfl rfl rfl ?_
        refine R_goto (tgt := 22) dX9_seat_73 (by decide) ?_
        exact WP_wk (wk_e (wk_e (wk_e (wk_e (wk_e (wk_u wk_n)))))) h
theorem e_X9_seat {K : SK} {d : Nat} {c : ct} {Q : ct → Int → Prop} (a1 : Int) (h : WI K (d + 1) mX9_seat 0 [(2, 108), (0, a1), (9, 0), (9, 0), (9, 0), (9, 0)] [] c Q) : CI K (d + 1) mX9_seat [(2, 108), (0, a1)] c Q := CM_ofS (by decide) (Nat.le_of_ble_eq_true rfl) _ rfl h
set_option maxRecDepth 100000 in
theorem s_X9_see_0 {K : SK} {d : Nat} {c : ct} {Q : ct → Int → Prop} (a1 : Int) (a2 : Int) (a3 : Int) (h : (a1 = (-1) → ∀ c2 : ct, c2 = up2 c 108 39 0 → Q c2 0) ∧ (¬ (a1 = (-1)) → ir a1 ∧ CI K d mX9_isGuest [(2, 108), (0, a1)] c (fun c3 r4 => (r4 = 0 → Q c3 (-1)) ∧ (¬ (r4 = 0) → ir r4 ∧ CI K d mX9_in [(2, 108), (0, a3), (0, 0), (0, 20)] c3 (fun c6 r7 => (r7 = 0 → Q c6 (-2)) ∧ (¬ (r7 = 0) → ir r7 ∧ ((c6 108 39) = 5 → Q c6 (-4)) ∧ (¬ ((c6 108 39) = 5) → ir (c6 108 39) ∧ ((0 ≤ (c6 108 39) ∧ (c6 108 39) < 5)) ∧ ∀ c10 : ct, c10 = up2 c6 128 (c6 108 39) a1 → ((0 ≤ (c10 108 39) ∧ (c10 108 39) < 5) ∧ (a2 = 0 ∨ a2 = 1)) ∧ ∀ c12 : ct, c12 = up2 c10 130 (c10 108 39) a2 → ((0 ≤ (c12 108 39) ∧ (c12 108 39) < 5)) ∧ ∀ c14 : ct, c14 = up2 c12 129 (c12 108 39) a3 → ∀ c16 : ct, c16 = up2 c14 108 39 ((c14 108 39) + 1) → Q c16 (c16 108 39)))))))) : WI K (d + 1) mX9_see 0 [(2, 108), (0, a1), (0, a2), (0, a3)] [] c Q := by
  refine R_iload_n (pc' := 1) dX9_see_0 rfl rfl ?_
  refine R_iconst (pc' := 2) dX9_see_1 rfl ?_
  by_cases hc1 : a1 = (-1)
  · have h := h.1 hc1
    refine R_neS_ic (tgt := 12) (pc' := 5) dX9_see_2 (by decide) hc1 rfl ?_
    refine R_aload_n (pc' := 6) dX9_see_5 rfl i108.1 rfl ?_
    refine R_iconst (pc' := 7) dX9_see_6 rfl ?_
    refine Q_putfi (J := 39) (pc' := 10) rfl dX9_see_7 l_RX9_129 i108 fd9_39.1 fd9_39.2.1 fd9_39.2.2.2.1 fd9_39.2.2.2.2 rfl (fun c2 hc2 => ?_)
    have h := h c2 hc2
    refine R_iconst (pc' := 11) dX9_see_10 rfl ?_
    exact Q_iret dX9_see_11 rfl h
  · have h := h.2 hc1
    refine R_neD_ic (tgt := 12) (pc' := 5) dX9_see_2 (by decide) hc1 ⟨h.1, ir_l (by decide) (by decide)⟩ rfl ?_
    have h := h.2
    refine R_aload_n (pc' := 13) dX9_see_12 rfl i108.1 rfl ?_
    refine R_iload_n (pc' := 14) dX9_see_13 rfl rfl ?_
    refine Q_callVI (vs := [(0, a1)]) (st := []) (pc' := 17) dX9_see_14 l_RX9_260 i108 (by decide) rfl rfl (Nat.le_of_ble_eq_true rfl) rfl (Nat.zero_le _) (Nat.zero_le _) rfl ?_
    refine CI.mono h (fun c3 r4 h => ?_)
    by_cases hc5 : r4 = 0
    · have h := h.1 hc5
      refine R_neS_if (tgt := 22) (pc' := 20) dX9_see_17 (by decide) hc5 rfl ?_
      refine R_iconst (pc' := 21) dX9_see_20 rfl ?_
      exact Q_iret dX9_see_21 rfl h
    · have h := h.2 hc5
      refine R_neD_if (tgt := 22) (pc' := 20) dX9_see_17 (by decide) hc5 h.1 rfl ?_
      have h := h.2
      refine R_aload_n (pc' := 23) dX9_see_22 rfl i108.1 rfl ?_
      refine R_iload_n (pc' := 24) dX9_see_23 rfl rfl ?_
      refine R_iconst (pc' := 25) dX9_see_24 rfl ?_
      refine R_bipush (pc' := 27) dX9_see_25 (by decide) rfl ?_
      refine Q_callVI (vs := [(0, a3), (0, 0), (0, 20)]) (st := []) (pc' := 30) dX9_see_27 l_RX9_252 i108 (by decide) rfl rfl (Nat.le_of_ble_eq_true rfl) rfl (Nat.zero_le _) (Nat.zero_le _) rfl ?_
      refine CI.mono h (fun c6 r7 h => ?_)
      by_cases hc8 : r7 = 0
      · have h := h.1 hc8
        refine R_neS_if (tgt := 36) (pc' := 33) dX9_see_30 (by decide) hc8 rfl ?_
        refine R_bipush (pc' := 35) dX9_see_33 (by decide) rfl ?_
        exact Q_iret dX9_see_35 rfl h
      · have h := h.2 hc8
        refine R_neD_if (tgt := 36) (pc' := 33) dX9_see_30 (by decide) hc8 h.1 rfl ?_
        have h := h.2
        refine R_aload_n (pc' := 37) dX9_see_36 rfl i108.1 rfl ?_
        refine Q_getfi (J := 39) (pc' := 40) rfl dX9_see_37 l_RX9_129 i108 fd9_39.1 fd9_39.2.1 fd9_39.2.2.1 rfl ?_
        refine R_iconst (pc' := 41) dX9_see_40 rfl ?_
        by_cases hc9 : (c6 108 39) = 5
        · have h := h.1 hc9
          refine R_neS_ic (tgt := 47) (pc' := 44) dX9_see_41 (by decide) hc9 rfl ?_
          refine R_bipush (pc' := 46) dX9_see_44 (by decide) rfl ?_
          exact Q_iret dX9_see_46 rfl h
        · have h := h.2 hc9
          refine R_neD_ic (tgt := 47) (pc' := 44) dX9_see_41 (by decide) hc9 ⟨h.1, ir_l (by decide) (by decide)⟩ rfl ?_
          have h := h.2
          refine R_aload_n (pc' := 48) dX9_see_47 rfl i108.1 rfl ?_
          refine Q_getfr (v := 128) (J := 40) (pc' := 51) rfl dX9_see_48 l_RX9_132 i108 fd9_40.1 fd9_40.2.1 fd9_40.2.2.1 fd9_40.2.2.2 f108_40 rfl ?_
          refine R_aload_n (pc' := 52) dX9_see_51 rfl i108.1 rfl ?_
          refine Q_getfi (J := 39) (pc' := 55) rfl dX9_see_52 l_RX9_129 i108 fd9_39.1 fd9_39.2.1 fd9_39.2.2.1 rfl ?_
          refine R_iload_n (pc' := 56) dX9_see_55 rfl rfl ?_
          have hs11 := h.1
          have h := h.2
          refine Q_iastore (N := 5) (pc' := 57) rfl dX9_see_56 i128 (by decide) hs11  rfl (fun c10 hc10 => ?_)
          have h := h c10 hc10
          refine R_aload_n (pc' := 58) dX9_see_57 rfl i108.1 rfl ?_
          refine Q_getfr (v := 130) (J := 42) (pc' := 61) rfl dX9_see_58 l_RX9_138 i108 fd9_42.1 fd9_42.2.1 fd9_42.2.2.1 fd9_42.2.2.2 f108_42 rfl ?_
          refine R_aload_n (pc' := 62) dX9_see_61 rfl i108.1 rfl ?_
          refine Q_getfi (J := 39) (pc' := 65) rfl dX9_see_62 l_RX9_129 i108 fd9_39.1 fd9_39.2.1 fd9_39.2.2.1 rfl ?_
          refine R_iload_n (pc' := 66) dX9_see_65 rfl rfl ?_
          have hs13 := h.1
          have h := h.2
          refine Q_zastore (N := 5) (pc' := 67) rfl dX9_see_66 i130 (by decide) hs13.1 hs13.2 rfl (fun c12 hc12 => ?_)
          have h := h c12 hc12
          refine R_aload_n (pc' := 68) dX9_see_67 rfl i108.1 rfl ?_
          refine Q_getfr (v := 129) (J := 41) (pc' := 71) rfl dX9_see_68 l_RX9_135 i108 fd9_41.1 fd9_41.2.1 fd9_41.2.2.1 fd9_41.2.2.2 f108_41 rfl ?_
          refine R_aload_n (pc' := 72) dX9_see_71 rfl i108.1 rfl ?_
          refine Q_getfi (J := 39) (pc' := 75) rfl dX9_see_72 l_RX9_129 i108 fd9_39.1 fd9_39.2.1 fd9_39.2.2.1 rfl ?_
          refine R_iload_n (pc' := 76) dX9_see_75 rfl rfl ?_
          have hs15 := h.1
          have h := h.2
          refine Q_iastore (N := 5) (pc' := 77) rfl dX9_see_76 i129 (by decide) hs15  rfl (fun c14 hc14 => ?_)
          have h := h c14 hc14
          refine R_aload_n (pc' := 78) dX9_see_77 rfl i108.1 rfl ?_
          refine R_dup (pc' := 79) dX9_see_78 (by simp) rfl ?_
          refine Q_getfi (J := 39) (pc' := 82) rfl dX9_see_79 l_RX9_129 i108 fd9_39.1 fd9_39.2.1 fd9_39.2.2.1 rfl ?_
          refine R_iconst (pc' := 83) dX9_see_82 rfl ?_
          refine R_iadd (pc' := 84) dX9_see_83 rfl ?_
          refine Q_putfi (J := 39) (pc' := 87) rfl dX9_see_84 l_RX9_129 i108 fd9_39.1 fd9_39.2.1 fd9_39.2.2.2.1 fd9_39.2.2.2.2 rfl (fun c16 hc16 => ?_)
          have h := h c16 hc16
          refine R_aload_n (pc' := 88) dX9_see_87 rfl i108.1 rfl ?_
          refine Q_getfi (J := 39) (pc' := 91) rfl dX9_see_88 l_RX9_129 i108 fd9_39.1 fd9_39.2.1 fd9_39.2.2.1 rfl ?_
          exact Q_iret dX9_see_91 rfl h
theorem e_X9_see {K : SK} {d : Nat} {c : ct} {Q : ct → Int → Prop} (a1 : Int) (a2 : Int) (a3 : Int) (h : WI K (d + 1) mX9_see 0 [(2, 108), (0, a1), (0, a2), (0, a3)] [] c Q) : CI K (d + 1) mX9_see [(2, 108), (0, a1), (0, a2), (0, a3)] c Q := CM_ofS (by decide) (Nat.le_of_ble_eq_true rfl) _ rfl h
set_option maxRecDepth 100000 in
theorem s_X9_isSeen_0 {K : SK} {d : Nat} {c : ct} {Q : ct → Int → Prop}  (h : WI K (d + 1) mX9_isSeen 4 [(2, 108), (0, 1), (0, 0)] [] c Q) : WI K (d + 1) mX9_isSeen 0 [(2, 108), (9, 0), (9, 0)] [] c Q := by
  refine R_iconst (pc' := 1) dX9_isSeen_0 rfl ?_
  refine R_istore_n (L' := [_, _, _]) (pc' := 2) dX9_isSeen_1 (by decide) rfl rfl rfl ?_
  refine R_iconst (pc' := 3) dX9_isSeen_2 rfl ?_
  refine R_istore_n (L' := [_, _, _]) (pc' := 4) dX9_isSeen_3 (by decide) rfl rfl rfl ?_
  exact WP_wk (wk_e (wk_e (wk_e wk_n))) h
set_option maxRecDepth 100000 in
theorem s_X9_isSeen_4 {K : SK} {d : Nat} {c : ct} {Q : ct → Int → Prop} (a1 : Int) (a2 : Int) (h : (ir a2 ∧ ir (c 108 39)) ∧ ((c 108 39) ≤ a2 → (a1 = 0 ∨ a1 = 1) ∧ Q c a1) ∧ (¬ ((c 108 39) ≤ a2) → (a1 = 0 → (a1 = 0 ∨ a1 = 1) ∧ Q c a1) ∧ (¬ (a1 = 0) → ir a1 ∧ CV K d mX9_save [(2, 108)] c (fun c4 => ((0 ≤ a2 ∧ a2 < 5)) ∧ CV K d mX9_goYears [(2, 108), (0, (c4 129 a2))] c4 (fun c7 => ((0 ≤ a2 ∧ a2 < 5)) ∧ CI K d mX9_has [(2, 108), (0, (c7 108 2)), (0, (c7 128 a2))] c7 (fun c10 r11 => ((0 ≤ a2 ∧ a2 < 5)) ∧ (r11 = (c10 130 a2) → CV K d mX9_putBack [(2, 108)] c10 (fun c14 => WI K (d + 1) mX9_isSeen 4 [(2, 108), (0, 1), (0, (a2 + 1))] [] c14 Q)) ∧ (¬ (r11 = (c10 130 a2)) → (ir r11 ∧ ir (c10 130 a2)) ∧ CV K d mX9_putBack [(2, 108)] c10 (fun c16 => WI K (d + 1) mX9_isSeen 4 [(2, 108), (0, 0), (0, (a2 + 1))] [] c16 Q)))))))) : WI K (d + 1) mX9_isSeen 4 [(2, 108), (0, a1), (0, a2)] [] c Q := by
  refine R_iload_n (pc' := 5) dX9_isSeen_4 rfl rfl ?_
  refine R_aload_n (pc' := 6) dX9_isSeen_5 rfl i108.1 rfl ?_
  refine Q_getfi (J := 39) (pc' := 9) rfl dX9_isSeen_6 l_RX9_129 i108 fd9_39.1 fd9_39.2.1 fd9_39.2.2.1 rfl ?_
  have hs2 := h.1
  have h := h.2
  refine R_icmp_ge (tgt := 69) (pc' := 12) dX9_isSeen_9 (by decide) hs2.1 hs2.2 rfl (fun hc1 => ?_) (fun hc1 => ?_)
  · have h := h.1 hc1
    refine R_iload_n (pc' := 70) dX9_isSeen_69 rfl rfl ?_
    exact Q_zret dX9_isSeen_70 rfl h.1 h.2
  · have h := h.2 hc1
    refine R_iload_n (pc' := 13) dX9_isSeen_12 rfl rfl ?_
    by_cases hc3 : a1 = 0
    · have h := h.1 hc3
      refine R_eqS_if (tgt := 69) (pc' := 16) dX9_isSeen_13 (by decide) hc3 rfl ?_
      refine R_iload_n (pc' := 70) dX9_isSeen_69 rfl rfl ?_
      exact Q_zret dX9_isSeen_70 rfl h.1 h.2
    · have h := h.2 hc3
      refine R_eqD_if (tgt := 69) (pc' := 16) dX9_isSeen_13 (by decide) hc3 h.1 rfl ?_
      have h := h.2
      refine R_aload_n (pc' := 17) dX9_isSeen_16 rfl i108.1 rfl ?_
      refine Q_callVV (vs := []) (st := []) (pc' := 20) dX9_isSeen_17 l_RX9_405 i108 (by decide) rfl rfl (Nat.le_of_ble_eq_true rfl) rfl (Nat.zero_le _) (Nat.zero_le _) rfl ?_
      refine CV.mono h (fun c4 h => ?_)
      refine R_aload_n (pc' := 21) dX9_isSeen_20 rfl i108.1 rfl ?_
      refine R_aload_n (pc' := 22) dX9_isSeen_21 rfl i108.1 rfl ?_
      refine Q_getfr (v := 129) (J := 41) (pc' := 25) rfl dX9_isSeen_22 l_RX9_135 i108 fd9_41.1 fd9_41.2.1 fd9_41.2.2.1 fd9_41.2.2.2 f108_41 rfl ?_
      refine R_iload_n (pc' := 26) dX9_isSeen_25 rfl rfl ?_
      have hs6 := h.1
      have h := h.2
      refine Q_iaload (N := 5) (pc' := 27) rfl dX9_isSeen_26 i129 (by decide) hs6 rfl ?_
      refine Q_callVV (vs := [(0, (c4 129 a2))]) (st := []) (pc' := 30) dX9_isSeen_27 l_RX9_401 i108 (by decide) rfl rfl (Nat.le_of_ble_eq_true rfl) rfl (Nat.zero_le _) (Nat.zero_le _) rfl ?_
      refine CV.mono h (fun c7 h => ?_)
      refine R_aload_n (pc' := 31) dX9_isSeen_30 rfl i108.1 rfl ?_
      refine R_aload_n (pc' := 32) dX9_isSeen_31 rfl i108.1 rfl ?_
      refine Q_getfi (J := 2) (pc' := 35) rfl dX9_isSeen_32 l_RX9_16 i108 fd9_2.1 fd9_2.2.1 fd9_2.2.2.1 rfl ?_
      refine R_aload_n (pc' := 36) dX9_isSeen_35 rfl i108.1 rfl ?_
      refine Q_getfr (v := 128) (J := 40) (pc' := 39) rfl dX9_isSeen_36 l_RX9_132 i108 fd9_40.1 fd9_40.2.1 fd9_40.2.2.1 fd9_40.2.2.2 f108_40 rfl ?_
      refine R_iload_n (pc' := 40) dX9_isSeen_39 rfl rfl ?_
      have hs9 := h.1
      have h := h.2
      refine Q_iaload (N := 5) (pc' := 41) rfl dX9_isSeen_40 i128 (by decide) hs9 rfl ?_
      refine Q_callVI (vs := [(0, (c7 108 2)), (0, (c7 128 a2))]) (st := []) (pc' := 44) dX9_isSeen_41 l_RX9_248 i108 (by decide) rfl rfl (Nat.le_of_ble_eq_true rfl) rfl (Nat.zero_le _) (Nat.zero_le _) rfl ?_
      refine CI.mono h (fun c10 r11 h => ?_)
      refine R_aload_n (pc' := 45) dX9_isSeen_44 rfl i108.1 rfl ?_
      refine Q_getfr (v := 130) (J := 42) (pc' := 48) rfl dX9_isSeen_45 l_RX9_138 i108 fd9_42.1 fd9_42.2.1 fd9_42.2.2.1 fd9_42.2.2.2 f108_42 rfl ?_
      refine R_iload_n (pc' := 49) dX9_isSeen_48 rfl rfl ?_
      have hs12 := h.1
      have h := h.2
      refine Q_zaload (N := 5) (pc' := 50) rfl dX9_isSeen_49 i130 (by decide) hs12 rfl ?_
      by_cases hc13 : r11 = (c10 130 a2)
      · have h := h.1 hc13
        refine R_neS_ic (tgt := 57) (pc' := 53) dX9_isSeen_50 (by decide) hc13 rfl ?_
        refine R_iconst (pc' := 54) dX9_isSeen_53 rfl ?_
        refine R_goto (tgt := 58) dX9_isSeen_54 (by decide) ?_
        refine R_istore_n (L' := [_, _, _]) (pc' := 59) dX9_isSeen_58 (by decide) rfl rfl rfl ?_
        refine R_aload_n (pc' := 60) dX9_isSeen_59 rfl i108.1 rfl ?_
        refine Q_callVV (vs := []) (st := []) (pc' := 63) dX9_isSeen_60 l_RX9_411 i108 (by decide) rfl rfl (Nat.le_of_ble_eq_true rfl) rfl (Nat.zero_le _) (Nat.zero_le _) rfl ?_
        refine CV.mono h (fun c14 h => ?_)
        refine R_iinc (L' := [_, _, _]) (pc' := 66) dX9_isSeen_63 rfl (by decide) rfl rfl rfl ?_
        refine R_goto (tgt := 4) dX9_isSeen_66 (by decide) ?_
        exact WP_wk (wk_e (wk_e (wk_e wk_n))) h
      · have h := h.2 hc13
        refine R_neD_ic (tgt := 57) (pc' := 53) dX9_isSeen_50 (by decide) hc13 h.1 rfl ?_
        have h := h.2
        refine R_iconst (pc' := 58) dX9_isSeen_57 rfl ?_
        refine R_istore_n (L' := [_, _, _]) (pc' := 59) dX9_isSeen_58 (by decide) rfl rfl rfl ?_
        refine R_aload_n (pc' := 60) dX9_isSeen_59 rfl i108.1 rfl ?_
        refine Q_callVV (vs := []) (st := []) (pc' := 63) dX9_isSeen_60 l_RX9_411 i108 (by decide) rfl rfl (Nat.le_of_ble_eq_true rfl) rfl (Nat.zero_le _) (Nat.zero_le _) rfl ?_
        refine CV.mono h (fun c16 h => ?_)
        refine R_iinc (L' := [_, _, _]) (pc' := 66) dX9_isSeen_63 rfl (by decide) rfl rfl rfl ?_
        refine R_goto (tgt := 4) dX9_isSeen_66 (by decide) ?_
        exact WP_wk (wk_e (wk_e (wk_e wk_n))) h
theorem e_X9_isSeen {K : SK} {d : Nat} {c : ct} {Q : ct → Int → Prop}  (h : WI K (d + 1) mX9_isSeen 0 [(2, 108), (9, 0), (9, 0)] [] c Q) : CI K (d + 1) mX9_isSeen [(2, 108)] c Q := CM_ofS (by decide) (Nat.le_of_ble_eq_true rfl) _ rfl h
set_option maxRecDepth 100000 in
theorem s_X9_where_0 {K : SK} {d : Nat} {c : ct} {Q : ct → Int → Prop} (a1 : Int) (h : CI K d mX9_isGuest [(2, 108), (0, a1)] c (fun c1 r2 => (r2 = 0 → Q c1 (-1)) ∧ (¬ (r2 = 0) → ir r2 ∧ WI K (d + 1) mX9_where 14 [(2, 108), (0, a1), (0, 0), (0, 0), (9, 0)] [] c1 Q))) : WI K (d + 1) mX9_where 0 [(2, 108), (0, a1), (9, 0), (9, 0), (9, 0)] [] c Q := by
  refine R_aload_n (pc' := 1) dX9_where_0 rfl i108.1 rfl ?_
  refine R_iload_n (pc' := 2) dX9_where_1 rfl rfl ?_
  refine Q_callVI (vs := [(0, a1)]) (st := []) (pc' := 5) dX9_where_2 l_RX9_260 i108 (by decide) rfl rfl (Nat.le_of_ble_eq_true rfl) rfl (Nat.zero_le _) (Nat.zero_le _) rfl ?_
  refine CI.mono h (fun c1 r2 h => ?_)
  by_cases hc3 : r2 = 0
  · have h := h.1 hc3
    refine R_neS_if (tgt := 10) (pc' := 8) dX9_where_5 (by decide) hc3 rfl ?_
    refine R_iconst (pc' := 9) dX9_where_8 rfl ?_
    exact Q_iret dX9_where_9 rfl h
  · have h := h.2 hc3
    refine R_neD_if (tgt := 10) (pc' := 8) dX9_where_5 (by decide) hc3 h.1 rfl ?_
    have h := h.2
    refine R_iconst (pc' := 11) dX9_where_10 rfl ?_
    refine R_istore_n (L' := [_, _, _, _, _]) (pc' := 12) dX9_where_11 (by decide) rfl rfl rfl ?_
    refine R_iconst (pc' := 13) dX9_where_12 rfl ?_
    refine R_istore_n (L' := [_, _, _, _, _]) (pc' := 14) dX9_where_13 (by decide) rfl rfl rfl ?_
    exact WP_wk (wk_e (wk_e (wk_e (wk_e (wk_u wk_n))))) h
set_option maxRecDepth 100000 in
theorem s_X9_where_14 {K : SK} {d : Nat} {c : ct} {Q : ct → Int → Prop} (a1 : Int) (a2 : Int) (a3 : Int) (h : (ir a3) ∧ (6 ≤ a3 → WI K (d + 1) mX9_where 40 [(2, 108), (0, a1), (0, a2), (0, 0), (9, 0)] [] c Q) ∧ (¬ (6 ≤ a3) → ((0 ≤ a3 ∧ a3 < 6)) ∧ ((0 ≤ a3 ∧ a3 < 6)) ∧ ∀ c4 : ct, c4 = up2 c 131 a3 (c 111 a3) → WI K (d + 1) mX9_where 14 [(2, 108), (0, a1), (0, a2), (0, (a3 + 1)), (9, 0)] [] c4 Q)) : WI K (d + 1) mX9_where 14 [(2, 108), (0, a1), (0, a2), (0, a3), (9, 0)] [] c Q := by
  refine R_iload_n (pc' := 15) dX9_where_14 rfl rfl ?_
  refine R_bipush (pc' := 17) dX9_where_15 (by decide) rfl ?_
  have hs2 := h.1
  have h := h.2
  refine R_icmp_ge (tgt := 38) (pc' := 20) dX9_where_17 (by decide) hs2 (ir_l (by decide) (by decide)) rfl (fun hc1 => ?_) (fun hc1 => ?_)
  · have h := h.1 hc1
    refine R_iconst (pc' := 39) dX9_where_38 rfl ?_
    refine R_istore_n (L' := [_, _, _, _, _]) (pc' := 40) dX9_where_39 (by decide) rfl rfl rfl ?_
    exact WP_wk (wk_e (wk_e (wk_e (wk_e (wk_u wk_n))))) h
  · have h := h.2 hc1
    refine R_aload_n (pc' := 21) dX9_where_20 rfl i108.1 rfl ?_
    refine Q_getfr (v := 131) (J := 43) (pc' := 24) rfl dX9_where_21 l_RX9_141 i108 fd9_43.1 fd9_43.2.1 fd9_43.2.2.1 fd9_43.2.2.2 f108_43 rfl ?_
    refine R_iload_n (pc' := 25) dX9_where_24 rfl rfl ?_
    refine R_aload_n (pc' := 26) dX9_where_25 rfl i108.1 rfl ?_
    refine Q_getfr (v := 111) (J := 7) (pc' := 29) rfl dX9_where_26 l_RX9_32 i108 fd9_7.1 fd9_7.2.1 fd9_7.2.2.1 fd9_7.2.2.2 f108_7 rfl ?_
    refine R_iload_n (pc' := 30) dX9_where_29 rfl rfl ?_
    have hs3 := h.1
    have h := h.2
    refine Q_iaload (N := 6) (pc' := 31) rfl dX9_where_30 i111 (by decide) hs3 rfl ?_
    have hs5 := h.1
    have h := h.2
    refine Q_iastore (N := 6) (pc' := 32) rfl dX9_where_31 i131 (by decide) hs5  rfl (fun c4 hc4 => ?_)
    have h := h c4 hc4
    refine R_iinc (L' := [_, _, _, _, _]) (pc' := 35) dX9_where_32 rfl (by decide) rfl rfl rfl ?_
    refine R_goto (tgt := 14) dX9_where_35 (by decide) ?_
    exact WP_wk (wk_e (wk_e (wk_e (wk_e (wk_u wk_n))))) h
set_option maxRecDepth 100000 in
theorem s_X9_where_40 {K : SK} {d : Nat} {c : ct} {Q : ct → Int → Prop} (a1 : Int) (a2 : Int) (a3 : Int) (h : (ir a3) ∧ (6 ≤ a3 → Q c a2) ∧ (¬ (6 ≤ a3) → CV K d mX9_takesSeat [(2, 108), (0, a1), (0, a3)] c (fun c3 => CI K d mX9_isSeen [(2, 108)] c3 (fun c5 r6 => (r6 = 0 → WI K (d + 1) mX9_where 72 [(2, 108), (0, a1), (0, (bOr a2 0)), (0, a3), (0, 0)] [] c5 Q) ∧ (¬ (r6 = 0) → ir r6 ∧ WI K (d + 1) mX9_where 72 [(2, 108), (0, a1), (0, (bOr a2 (bShl 1 a3))), (0, a3), (0, 0)] [] c5 Q))))) : WI K (d + 1) mX9_where 40 [(2, 108), (0, a1), (0, a2), (0, a3), (9, 0)] [] c Q := by
  refine R_iload_n (pc' := 41) dX9_where_40 rfl rfl ?_
  refine R_bipush (pc' := 43) dX9_where_41 (by decide) rfl ?_
  have hs2 := h.1
  have h := h.2
  refine R_icmp_ge (tgt := 105) (pc' := 46) dX9_where_43 (by decide) hs2 (ir_l (by decide) (by decide)) rfl (fun hc1 => ?_) (fun hc1 => ?_)
  · have h := h.1 hc1
    refine R_iload_n (pc' := 106) dX9_where_105 rfl rfl ?_
    exact Q_iret dX9_where_106 rfl h
  · have h := h.2 hc1
    refine R_aload_n (pc' := 47) dX9_where_46 rfl i108.1 rfl ?_
    refine R_iload_n (pc' := 48) dX9_where_47 rfl rfl ?_
    refine R_iload_n (pc' := 49) dX9_where_48 rfl rfl ?_
    refine Q_callVV (vs := [(0, a1), (0, a3)]) (st := []) (pc' := 52) dX9_where_49 l_RX9_271 i108 (by decide) rfl rfl (Nat.le_of_ble_eq_true rfl) rfl (Nat.zero_le _) (Nat.zero_le _) rfl ?_
    refine CV.mono h (fun c3 h => ?_)
    refine R_iload_n (pc' := 53) dX9_where_52 rfl rfl ?_
    refine R_aload_n (pc' := 54) dX9_where_53 rfl i108.1 rfl ?_
    refine Q_callVI (vs := []) (st := [(0, a2)]) (pc' := 57) dX9_where_54 l_RX9_421 i108 (by decide) rfl rfl (Nat.le_of_ble_eq_true rfl) rfl (Nat.zero_le _) (Nat.zero_le _) rfl ?_
    refine CI.mono h (fun c5 r6 h => ?_)
    by_cases hc7 : r6 = 0
    · have h := h.1 hc7
      refine R_eqS_if (tgt := 66) (pc' := 60) dX9_where_57 (by decide) hc7 rfl ?_
      refine R_iconst (pc' := 67) dX9_where_66 rfl ?_
      refine R_ior (pc' := 68) dX9_where_67 rfl ?_
      refine R_istore_n (L' := [_, _, _, _, _]) (pc' := 69) dX9_where_68 (by decide) rfl rfl rfl ?_
      refine R_iconst (pc' := 70) dX9_where_69 rfl ?_
      refine R_istore (L' := [_, _, _, _, _]) (pc' := 72) dX9_where_70 (by decide) rfl rfl rfl ?_
      exact WP_wk (wk_e (wk_e (wk_e (wk_e (wk_e wk_n))))) h
    · have h := h.2 hc7
      refine R_eqD_if (tgt := 66) (pc' := 60) dX9_where_57 (by decide) hc7 h.1 rfl ?_
      have h := h.2
      refine R_iconst (pc' := 61) dX9_where_60 rfl ?_
      refine R_iload_n (pc' := 62) dX9_where_61 rfl rfl ?_
      refine R_ishl (pc' := 63) dX9_where_62 rfl ?_
      refine R_goto (tgt := 67) dX9_where_63 (by decide) ?_
      refine R_ior (pc' := 68) dX9_where_67 rfl ?_
      refine R_istore_n (L' := [_, _, _, _, _]) (pc' := 69) dX9_where_68 (by decide) rfl rfl rfl ?_
      refine R_iconst (pc' := 70) dX9_where_69 rfl ?_
      refine R_istore (L' := [_, _, _, _, _]) (pc' := 72) dX9_where_70 (by decide) rfl rfl rfl ?_
      exact WP_wk (wk_e (wk_e (wk_e (wk_e (wk_e wk_n))))) h
set_option maxRecDepth 100000 in
theorem s_X9_where_72 {K : SK} {d : Nat} {c : ct} {Q : ct → Int → Prop} (a1 : Int) (a2 : Int) (a3 : Int) (a4 : Int) (h : (ir a4) ∧ (6 ≤ a4 → WI K (d + 1) mX9_where 40 [(2, 108), (0, a1), (0, a2), (0, (a3 + 1)), (9, 0)] [] c Q) ∧ (¬ (6 ≤ a4) → ((0 ≤ a4 ∧ a4 < 6)) ∧ ((0 ≤ a4 ∧ a4 < 6)) ∧ ∀ c4 : ct, c4 = up2 c 111 a4 (c 131 a4) → WI K (d + 1) mX9_where 72 [(2, 108), (0, a1), (0, a2), (0, a3), (0, (a4 + 1))] [] c4 Q)) : WI K (d + 1) mX9_where 72 [(2, 108), (0, a1), (0, a2), (0, a3), (0, a4)] [] c Q := by
  refine R_iload (pc' := 74) dX9_where_72 rfl rfl ?_
  refine R_bipush (pc' := 76) dX9_where_74 (by decide) rfl ?_
  have hs2 := h.1
  have h := h.2
  refine R_icmp_ge (tgt := 99) (pc' := 79) dX9_where_76 (by decide) hs2 (ir_l (by decide) (by decide)) rfl (fun hc1 => ?_) (fun hc1 => ?_)
  · have h := h.1 hc1
    refine R_iinc (L' := [_, _, _, _, _]) (pc' := 102) dX9_where_99 rfl (by decide) rfl rfl rfl ?_
    refine R_goto (tgt := 40) dX9_where_102 (by decide) ?_
    exact WP_wk (wk_e (wk_e (wk_e (wk_e (wk_u wk_n))))) h
  · have h := h.2 hc1
    refine R_aload_n (pc' := 80) dX9_where_79 rfl i108.1 rfl ?_
    refine Q_getfr (v := 111) (J := 7) (pc' := 83) rfl dX9_where_80 l_RX9_32 i108 fd9_7.1 fd9_7.2.1 fd9_7.2.2.1 fd9_7.2.2.2 f108_7 rfl ?_
    refine R_iload (pc' := 85) dX9_where_83 rfl rfl ?_
    refine R_aload_n (pc' := 86) dX9_where_85 rfl i108.1 rfl ?_
    refine Q_getfr (v := 131) (J := 43) (pc' := 89) rfl dX9_where_86 l_RX9_141 i108 fd9_43.1 fd9_43.2.1 fd9_43.2.2.1 fd9_43.2.2.2 f108_43 rfl ?_
    refine R_iload (pc' := 91) dX9_where_89 rfl rfl ?_
    have hs3 := h.1
    have h := h.2
    refine Q_iaload (N := 6) (pc' := 92) rfl dX9_where_91 i131 (by decide) hs3 rfl ?_
    have hs5 := h.1
    have h := h.2
    refine Q_iastore (N := 6) (pc' := 93) rfl dX9_where_92 i111 (by decide) hs5  rfl (fun c4 hc4 => ?_)
    have h := h c4 hc4
    refine R_iinc (L' := [_, _, _, _, _]) (pc' := 96) dX9_where_93 rfl (by decide) rfl rfl rfl ?_
    refine R_goto (tgt := 72) dX9_where_96 (by decide) ?_
    exact WP_wk (wk_e (wk_e (wk_e (wk_e (wk_e wk_n))))) h
theorem e_X9_where {K : SK} {d : Nat} {c : ct} {Q : ct → Int → Prop} (a1 : Int) (h : WI K (d + 1) mX9_where 0 [(2, 108), (0, a1), (9, 0), (9, 0), (9, 0)] [] c Q) : CI K (d + 1) mX9_where [(2, 108), (0, a1)] c Q := CM_ofS (by decide) (Nat.le_of_ble_eq_true rfl) _ rfl h
set_option maxRecDepth 100000 in
theorem s_X9_can_0 {K : SK} {d : Nat} {c : ct} {Q : ct → Int → Prop} (a1 : Int) (a2 : Int) (h : CI K d mX9_isGuest [(2, 108), (0, a1)] c (fun c1 r2 => (r2 = 0 → Q c1 (-1)) ∧ (¬ (r2 = 0) → ir r2 ∧ CI K d mX9_in [(2, 108), (0, a2), (0, 0), (0, 1)] c1 (fun c4 r5 => (r5 = 0 → Q c4 (-1)) ∧ (¬ (r5 = 0) → ir r5 ∧ ((0 ≤ a1 ∧ a1 < 6)) ∧ WI K (d + 1) mX9_can 38 [(2, 108), (0, a1), (0, a2), (0, (c4 110 a1)), (0, 0), (0, (-5)), (0, 9)] [] c4 Q))))) : WI K (d + 1) mX9_can 0 [(2, 108), (0, a1), (0, a2), (9, 0), (9, 0), (9, 0), (9, 0)] [] c Q := by
  refine R_aload_n (pc' := 1) dX9_can_0 rfl i108.1 rfl ?_
  refine R_iload_n (pc' := 2) dX9_can_1 rfl rfl ?_
  refine Q_callVI (vs := [(0, a1)]) (st := []) (pc' := 5) dX9_can_2 l_RX9_260 i108 (by decide) rfl rfl (Nat.le_of_ble_eq_true rfl) rfl (Nat.zero_le _) (Nat.zero_le _) rfl ?_
  refine CI.mono h (fun c1 r2 h => ?_)
  by_cases hc3 : r2 = 0
  · have h := h.1 hc3
    refine R_eqS_if (tgt := 18) (pc' := 8) dX9_can_5 (by decide) hc3 rfl ?_
    refine R_iconst (pc' := 19) dX9_can_18 rfl ?_
    exact Q_iret dX9_can_19 rfl h
  · have h := h.2 hc3
    refine R_eqD_if (tgt := 18) (pc' := 8) dX9_can_5 (by decide) hc3 h.1 rfl ?_
    have h := h.2
    refine R_aload_n (pc' := 9) dX9_can_8 rfl i108.1 rfl ?_
    refine R_iload_n (pc' := 10) dX9_can_9 rfl rfl ?_
    refine R_iconst (pc' := 11) dX9_can_10 rfl ?_
    refine R_iconst (pc' := 12) dX9_can_11 rfl ?_
    refine Q_callVI (vs := [(0, a2), (0, 0), (0, 1)]) (st := []) (pc' := 15) dX9_can_12 l_RX9_252 i108 (by decide) rfl rfl (Nat.le_of_ble_eq_true rfl) rfl (Nat.zero_le _) (Nat.zero_le _) rfl ?_
    refine CI.mono h (fun c4 r5 h => ?_)
    by_cases hc6 : r5 = 0
    · have h := h.1 hc6
      refine R_neS_if (tgt := 20) (pc' := 18) dX9_can_15 (by decide) hc6 rfl ?_
      refine R_iconst (pc' := 19) dX9_can_18 rfl ?_
      exact Q_iret dX9_can_19 rfl h
    · have h := h.2 hc6
      refine R_neD_if (tgt := 20) (pc' := 18) dX9_can_15 (by decide) hc6 h.1 rfl ?_
      have h := h.2
      refine R_aload_n (pc' := 21) dX9_can_20 rfl i108.1 rfl ?_
      refine Q_getfr (v := 110) (J := 6) (pc' := 24) rfl dX9_can_21 l_RX9_29 i108 fd9_6.1 fd9_6.2.1 fd9_6.2.2.1 fd9_6.2.2.2 f108_6 rfl ?_
      refine R_iload_n (pc' := 25) dX9_can_24 rfl rfl ?_
      have hs7 := h.1
      have h := h.2
      refine Q_iaload (N := 6) (pc' := 26) rfl dX9_can_25 i110 (by decide) hs7 rfl ?_
      refine R_istore_n (L' := [_, _, _, _, _, _, _]) (pc' := 27) dX9_can_26 (by decide) rfl rfl rfl ?_
      refine R_iconst (pc' := 28) dX9_can_27 rfl ?_
      refine R_istore (L' := [_, _, _, _, _, _, _]) (pc' := 30) dX9_can_28 (by decide) rfl rfl rfl ?_
      refine R_bipush (pc' := 32) dX9_can_30 (by decide) rfl ?_
      refine R_istore (L' := [_, _, _, _, _, _, _]) (pc' := 34) dX9_can_32 (by decide) rfl rfl rfl ?_
      refine R_bipush (pc' := 36) dX9_can_34 (by decide) rfl ?_
      refine R_istore (L' := [_, _, _, _, _, _, _]) (pc' := 38) dX9_can_36 (by decide) rfl rfl rfl ?_
      exact WP_wk (wk_e (wk_e (wk_e (wk_e (wk_e (wk_e (wk_e wk_n))))))) h
set_option maxRecDepth 100000 in
theorem s_X9_can_38 {K : SK} {d : Nat} {c : ct} {Q : ct → Int → Prop} (a1 : Int) (a2 : Int) (a3 : Int) (a4 : Int) (a5 : Int) (a6 : Int) (h : (ir a6) ∧ (a6 < 0 → ((0 ≤ a1 ∧ a1 < 6)) ∧ ∀ c3 : ct, c3 = up2 c 110 a1 a3 → (a2 = 0 → Q c3 a4) ∧ (¬ (a2 = 0) → ir a2 ∧ Q c3 a5)) ∧ (¬ (a6 < 0) → ((0 ≤ a1 ∧ a1 < 6)) ∧ ∀ c6 : ct, c6 = up2 c 110 a1 a6 → CI K d mX9_isSeen [(2, 108)] c6 (fun c8 r9 => (r9 = 0 → WI K (d + 1) mX9_can 38 [(2, 108), (0, a1), (0, a2), (0, a3), (0, a4), (0, a5), (0, (a6 + (-1)))] [] c8 Q) ∧ (¬ (r9 = 0) → ir r9 ∧ WI K (d + 1) mX9_can 38 [(2, 108), (0, a1), (0, a2), (0, a3), (0, (a4 + 1)), (0, a6), (0, (a6 + (-1)))] [] c8 Q)))) : WI K (d + 1) mX9_can 38 [(2, 108), (0, a1), (0, a2), (0, a3), (0, a4), (0, a5), (0, a6)] [] c Q := by
  refine R_iload (pc' := 40) dX9_can_38 rfl rfl ?_
  have hs2 := h.1
  have h := h.2
  refine R_if_lt (tgt := 74) (pc' := 43) dX9_can_40 (by decide) hs2  rfl (fun hc1 => ?_) (fun hc1 => ?_)
  · have h := h.1 hc1
    refine R_aload_n (pc' := 75) dX9_can_74 rfl i108.1 rfl ?_
    refine Q_getfr (v := 110) (J := 6) (pc' := 78) rfl dX9_can_75 l_RX9_29 i108 fd9_6.1 fd9_6.2.1 fd9_6.2.2.1 fd9_6.2.2.2 f108_6 rfl ?_
    refine R_iload_n (pc' := 79) dX9_can_78 rfl rfl ?_
    refine R_iload_n (pc' := 80) dX9_can_79 rfl rfl ?_
    have hs4 := h.1
    have h := h.2
    refine Q_iastore (N := 6) (pc' := 81) rfl dX9_can_80 i110 (by decide) hs4  rfl (fun c3 hc3 => ?_)
    have h := h c3 hc3
    refine R_iload_n (pc' := 82) dX9_can_81 rfl rfl ?_
    by_cases hc5 : a2 = 0
    · have h := h.1 hc5
      refine R_neS_if (tgt := 90) (pc' := 85) dX9_can_82 (by decide) hc5 rfl ?_
      refine R_iload (pc' := 87) dX9_can_85 rfl rfl ?_
      refine R_goto (tgt := 92) dX9_can_87 (by decide) ?_
      exact Q_iret dX9_can_92 rfl h
    · have h := h.2 hc5
      refine R_neD_if (tgt := 90) (pc' := 85) dX9_can_82 (by decide) hc5 h.1 rfl ?_
      have h := h.2
      refine R_iload (pc' := 92) dX9_can_90 rfl rfl ?_
      exact Q_iret dX9_can_92 rfl h
  · have h := h.2 hc1
    refine R_aload_n (pc' := 44) dX9_can_43 rfl i108.1 rfl ?_
    refine Q_getfr (v := 110) (J := 6) (pc' := 47) rfl dX9_can_44 l_RX9_29 i108 fd9_6.1 fd9_6.2.1 fd9_6.2.2.1 fd9_6.2.2.2 f108_6 rfl ?_
    refine R_iload_n (pc' := 48) dX9_can_47 rfl rfl ?_
    refine R_iload (pc' := 50) dX9_can_48 rfl rfl ?_
    have hs7 := h.1
    have h := h.2
    refine Q_iastore (N := 6) (pc' := 51) rfl dX9_can_50 i110 (by decide) hs7  rfl (fun c6 hc6 => ?_)
    have h := h c6 hc6
    refine R_aload_n (pc' := 52) dX9_can_51 rfl i108.1 rfl ?_
    refine Q_callVI (vs := []) (st := []) (pc' := 55) dX9_can_52 l_RX9_421 i108 (by decide) rfl rfl (Nat.le_of_ble_eq_true rfl) rfl (Nat.zero_le _) (Nat.zero_le _) rfl ?_
    refine CI.mono h (fun c8 r9 h => ?_)
    by_cases hc10 : r9 = 0
    · have h := h.1 hc10
      refine R_neS_if (tgt := 61) (pc' := 58) dX9_can_55 (by decide) hc10 rfl ?_
      refine R_goto (tgt := 68) dX9_can_58 (by decide) ?_
      refine R_iinc (L' := [_, _, _, _, _, _, _]) (pc' := 71) dX9_can_68 rfl (by decide) rfl rfl rfl ?_
      refine R_goto (tgt := 38) dX9_can_71 (by decide) ?_
      exact WP_wk (wk_e (wk_e (wk_e (wk_e (wk_e (wk_e (wk_e wk_n))))))) h
    · have h := h.2 hc10
      refine R_neD_if (tgt := 61) (pc' := 58) dX9_can_55 (by decide) hc10 h.1 rfl ?_
      have h := h.2
      refine R_iinc (L' := [_, _, _, _, _, _, _]) (pc' := 64) dX9_can_61 rfl (by decide) rfl rfl rfl ?_
      refine R_iload (pc' := 66) dX9_can_64 rfl rfl ?_
      refine R_istore (L' := [_, _, _, _, _, _, _]) (pc' := 68) dX9_can_66 (by decide) rfl rfl rfl ?_
      refine R_iinc (L' := [_, _, _, _, _, _, _]) (pc' := 71) dX9_can_68 rfl (by decide) rfl rfl rfl ?_
      refine R_goto (tgt := 38) dX9_can_71 (by decide) ?_
      exact WP_wk (wk_e (wk_e (wk_e (wk_e (wk_e (wk_e (wk_e wk_n))))))) h
theorem e_X9_can {K : SK} {d : Nat} {c : ct} {Q : ct → Int → Prop} (a1 : Int) (a2 : Int) (h : WI K (d + 1) mX9_can 0 [(2, 108), (0, a1), (0, a2), (9, 0), (9, 0), (9, 0), (9, 0)] [] c Q) : CI K (d + 1) mX9_can [(2, 108), (0, a1), (0, a2)] c Q := CM_ofS (by decide) (Nat.le_of_ble_eq_true rfl) _ rfl h
set_option maxRecDepth 100000 in
theorem s_X9_divisor_0 {K : SK} {d : Nat} {c : ct} {Q : ct → Int → Prop} (a1 : Int) (a2 : Int) (h : (ir a1) ∧ (0 ≤ a1 → WI K (d + 1) mX9_divisor 14 [(9, 0), (9, 0), (9, 0), (0, a1), (0, a2), (9, 0)] [] c Q) ∧ (¬ (0 ≤ a1) → WI K (d + 1) mX9_divisor 14 [(9, 0), (9, 0), (9, 0), (0, (-a1)), (0, a2), (9, 0)] [] c Q)) : WI K (d + 1) mX9_divisor 0 [(2, 108), (0, a1), (0, a2), (9, 0), (9, 0), (9, 0)] [] c Q := by
  refine R_iload_n (pc' := 1) dX9_divisor_0 rfl rfl ?_
  have hs2 := h.1
  have h := h.2
  refine R_if_ge (tgt := 9) (pc' := 4) dX9_divisor_1 (by decide) hs2  rfl (fun hc1 => ?_) (fun hc1 => ?_)
  · have h := h.1 hc1
    refine R_iload_n (pc' := 10) dX9_divisor_9 rfl rfl ?_
    refine R_istore_n (L' := [_, _, _, _, _, _]) (pc' := 11) dX9_divisor_10 (by decide) rfl rfl rfl ?_
    refine R_iload_n (pc' := 12) dX9_divisor_11 rfl rfl ?_
    refine R_istore (L' := [_, _, _, _, _, _]) (pc' := 14) dX9_divisor_12 (by decide) rfl rfl rfl ?_
    exact WP_wk (wk_u (wk_u (wk_u (wk_e (wk_e (wk_u wk_n)))))) h
  · have h := h.2 hc1
    refine R_iload_n (pc' := 5) dX9_divisor_4 rfl rfl ?_
    refine R_ineg (pc' := 6) dX9_divisor_5 rfl ?_
    refine R_goto (tgt := 10) dX9_divisor_6 (by decide) ?_
    refine R_istore_n (L' := [_, _, _, _, _, _]) (pc' := 11) dX9_divisor_10 (by decide) rfl rfl rfl ?_
    refine R_iload_n (pc' := 12) dX9_divisor_11 rfl rfl ?_
    refine R_istore (L' := [_, _, _, _, _, _]) (pc' := 14) dX9_divisor_12 (by decide) rfl rfl rfl ?_
    exact WP_wk (wk_u (wk_u (wk_u (wk_e (wk_e (wk_u wk_n)))))) h
set_option maxRecDepth 100000 in
theorem s_X9_divisor_14 {K : SK} {d : Nat} {c : ct} {Q : ct → Int → Prop} (a3 : Int) (a4 : Int) (h : (a4 = 0 → Q c a3) ∧ (¬ (a4 = 0) → ir a4 ∧ (0 < a4 ∧ ir a3 ∧ ir a4) ∧ WI K (d + 1) mX9_divisor 14 [(9, 0), (9, 0), (9, 0), (0, a4), (0, (Int.tmod a3 a4)), (9, 0)] [] c Q)) : WI K (d + 1) mX9_divisor 14 [(9, 0), (9, 0), (9, 0), (0, a3), (0, a4), (9, 0)] [] c Q := by
  refine R_iload (pc' := 16) dX9_divisor_14 rfl rfl ?_
  by_cases hc1 : a4 = 0
  · have h := h.1 hc1
    refine R_eqS_if (tgt := 35) (pc' := 19) dX9_divisor_16 (by decide) hc1 rfl ?_
    refine R_iload_n (pc' := 36) dX9_divisor_35 rfl rfl ?_
    exact Q_iret dX9_divisor_36 rfl h
  · have h := h.2 hc1
    refine R_eqD_if (tgt := 35) (pc' := 19) dX9_divisor_16 (by decide) hc1 h.1 rfl ?_
    have h := h.2
    refine R_iload_n (pc' := 20) dX9_divisor_19 rfl rfl ?_
    refine R_iload (pc' := 22) dX9_divisor_20 rfl rfl ?_
    have hs2 := h.1
    have h := h.2
    refine R_irem (pc' := 23) dX9_divisor_22 hs2.1 hs2.2.1 hs2.2.2 rfl ?_
    refine R_istore (L' := [_, _, _, _, _, _]) (pc' := 25) dX9_divisor_23 (by decide) rfl rfl rfl ?_
    refine R_iload (pc' := 27) dX9_divisor_25 rfl rfl ?_
    refine R_istore_n (L' := [_, _, _, _, _, _]) (pc' := 28) dX9_divisor_27 (by decide) rfl rfl rfl ?_
    refine R_iload (pc' := 30) dX9_divisor_28 rfl rfl ?_
    refine R_istore (L' := [_, _, _, _, _, _]) (pc' := 32) dX9_divisor_30 (by decide) rfl rfl rfl ?_
    refine R_goto (tgt := 14) dX9_divisor_32 (by decide) ?_
    exact WP_wk (wk_u (wk_u (wk_u (wk_e (wk_e (wk_u wk_n)))))) h
theorem e_X9_divisor {K : SK} {d : Nat} {c : ct} {Q : ct → Int → Prop} (a1 : Int) (a2 : Int) (h : WI K (d + 1) mX9_divisor 0 [(2, 108), (0, a1), (0, a2), (9, 0), (9, 0), (9, 0)] [] c Q) : CI K (d + 1) mX9_divisor [(2, 108), (0, a1), (0, a2)] c Q := CM_ofS (by decide) (Nat.le_of_ble_eq_true rfl) _ rfl h
set_option maxRecDepth 100000 in
theorem s_X9_lowest_0 {K : SK} {d : Nat} {c : ct} {Q : ct → Int → Prop} (a1 : Int) (a2 : Int) (a3 : Int) (h : CI K d mX9_divisor [(2, 108), (0, a1), (0, a2)] c (fun c1 r2 => (a3 = 0 → (0 < r2 ∧ ir a1 ∧ ir r2) ∧ (ir (Int.tdiv a1 r2)) ∧ Q c1 (Int.tdiv a1 r2)) ∧ (¬ (a3 = 0) → ir a3 ∧ (0 < r2 ∧ ir a2 ∧ ir r2) ∧ (ir (Int.tdiv a2 r2)) ∧ Q c1 (Int.tdiv a2 r2)))) : WLg K (d + 1) mX9_lowest 0 [(2, 108), (0, a1), (0, a2), (0, a3), (9, 0)] [] c Q := by
  refine R_aload_n (pc' := 1) dX9_lowest_0 rfl i108.1 rfl ?_
  refine R_iload_n (pc' := 2) dX9_lowest_1 rfl rfl ?_
  refine R_iload_n (pc' := 3) dX9_lowest_2 rfl rfl ?_
  refine Q_callVI (vs := [(0, a1), (0, a2)]) (st := []) (pc' := 6) dX9_lowest_3 l_RX9_424 i108 (by decide) rfl rfl (Nat.le_of_ble_eq_true rfl) rfl (Nat.zero_le _) (Nat.zero_le _) rfl ?_
  refine CI.mono h (fun c1 r2 h => ?_)
  refine R_istore (L' := [_, _, _, _, _]) (pc' := 8) dX9_lowest_6 (by decide) rfl rfl rfl ?_
  refine R_iload_n (pc' := 9) dX9_lowest_8 rfl rfl ?_
  by_cases hc3 : a3 = 0
  · have h := h.1 hc3
    refine R_neS_if (tgt := 20) (pc' := 12) dX9_lowest_9 (by decide) hc3 rfl ?_
    refine R_iload_n (pc' := 13) dX9_lowest_12 rfl rfl ?_
    refine R_iload (pc' := 15) dX9_lowest_13 rfl rfl ?_
    have hs4 := h.1
    have h := h.2
    refine R_idiv (pc' := 16) dX9_lowest_15 hs4.1 hs4.2.1 hs4.2.2 rfl ?_
    have hs5 := h.1
    have h := h.2
    refine R_i2l (pc' := 17) dX9_lowest_16 hs5 rfl ?_
    refine R_goto (tgt := 25) dX9_lowest_17 (by decide) ?_
    exact Q_lret dX9_lowest_25 rfl h
  · have h := h.2 hc3
    refine R_neD_if (tgt := 20) (pc' := 12) dX9_lowest_9 (by decide) hc3 h.1 rfl ?_
    have h := h.2
    refine R_iload_n (pc' := 21) dX9_lowest_20 rfl rfl ?_
    refine R_iload (pc' := 23) dX9_lowest_21 rfl rfl ?_
    have hs6 := h.1
    have h := h.2
    refine R_idiv (pc' := 24) dX9_lowest_23 hs6.1 hs6.2.1 hs6.2.2 rfl ?_
    have hs7 := h.1
    have h := h.2
    refine R_i2l (pc' := 25) dX9_lowest_24 hs7 rfl ?_
    exact Q_lret dX9_lowest_25 rfl h
theorem e_X9_lowest {K : SK} {d : Nat} {c : ct} {Q : ct → Int → Prop} (a1 : Int) (a2 : Int) (a3 : Int) (h : WLg K (d + 1) mX9_lowest 0 [(2, 108), (0, a1), (0, a2), (0, a3), (9, 0)] [] c Q) : CL K (d + 1) mX9_lowest [(2, 108), (0, a1), (0, a2), (0, a3)] c Q := CM_ofS (by decide) (Nat.le_of_ble_eq_true rfl) _ rfl h
set_option maxRecDepth 100000 in
theorem s_X9_odds_0 {K : SK} {d : Nat} {c : ct} {Q : ct → Int → Prop} (a1 : Int) (a2 : Int) (h : CI K d mX9_in [(2, 108), (0, a1), (0, 0), (0, 999)] c (fun c1 r2 => (r2 = 0 → Q c1 (-9223372036854775808)) ∧ (¬ (r2 = 0) → ir r2 ∧ CI K d mX9_in [(2, 108), (0, a2), (0, 0), (0, 1)] c1 (fun c4 r5 => (r5 = 0 → Q c4 (-9223372036854775808)) ∧ (¬ (r5 = 0) → ir r5 ∧ ((c4 108 0) = 0 → Q c4 (-9223372036854775808)) ∧ (¬ ((c4 108 0) = 0) → ir (c4 108 0) ∧ WLg K (d + 1) mX9_odds 44 [(2, 108), (0, a1), (0, a2), (0, 0), (0, (c4 108 1)), (0, 0)] [] c4 Q)))))) : WLg K (d + 1) mX9_odds 0 [(2, 108), (0, a1), (0, a2), (9, 0), (9, 0), (9, 0)] [] c Q := by
  refine R_aload_n (pc' := 1) dX9_odds_0 rfl i108.1 rfl ?_
  refine R_iload_n (pc' := 2) dX9_odds_1 rfl rfl ?_
  refine R_iconst (pc' := 3) dX9_odds_2 rfl ?_
  refine R_sipush (pc' := 6) dX9_odds_3 (by decide) rfl ?_
  refine Q_callVI (vs := [(0, a1), (0, 0), (0, 999)]) (st := []) (pc' := 9) dX9_odds_6 l_RX9_252 i108 (by decide) rfl rfl (Nat.le_of_ble_eq_true rfl) rfl (Nat.zero_le _) (Nat.zero_le _) rfl ?_
  refine CI.mono h (fun c1 r2 h => ?_)
  by_cases hc3 : r2 = 0
  · have h := h.1 hc3
    refine R_eqS_if (tgt := 29) (pc' := 12) dX9_odds_9 (by decide) hc3 rfl ?_
    refine R_ldc2 (x := (-9223372036854775808)) (pc' := 32) dX9_odds_29 l_RX9_427 (by decide) rfl ?_
    exact Q_lret dX9_odds_32 rfl h
  · have h := h.2 hc3
    refine R_eqD_if (tgt := 29) (pc' := 12) dX9_odds_9 (by decide) hc3 h.1 rfl ?_
    have h := h.2
    refine R_aload_n (pc' := 13) dX9_odds_12 rfl i108.1 rfl ?_
    refine R_iload_n (pc' := 14) dX9_odds_13 rfl rfl ?_
    refine R_iconst (pc' := 15) dX9_odds_14 rfl ?_
    refine R_iconst (pc' := 16) dX9_odds_15 rfl ?_
    refine Q_callVI (vs := [(0, a2), (0, 0), (0, 1)]) (st := []) (pc' := 19) dX9_odds_16 l_RX9_252 i108 (by decide) rfl rfl (Nat.le_of_ble_eq_true rfl) rfl (Nat.zero_le _) (Nat.zero_le _) rfl ?_
    refine CI.mono h (fun c4 r5 h => ?_)
    by_cases hc6 : r5 = 0
    · have h := h.1 hc6
      refine R_eqS_if (tgt := 29) (pc' := 22) dX9_odds_19 (by decide) hc6 rfl ?_
      refine R_ldc2 (x := (-9223372036854775808)) (pc' := 32) dX9_odds_29 l_RX9_427 (by decide) rfl ?_
      exact Q_lret dX9_odds_32 rfl h
    · have h := h.2 hc6
      refine R_eqD_if (tgt := 29) (pc' := 22) dX9_odds_19 (by decide) hc6 h.1 rfl ?_
      have h := h.2
      refine R_aload_n (pc' := 23) dX9_odds_22 rfl i108.1 rfl ?_
      refine Q_getfi (J := 0) (pc' := 26) rfl dX9_odds_23 l_RX9_7 i108 fd9_0.1 fd9_0.2.1 fd9_0.2.2.1 rfl ?_
      by_cases hc7 : (c4 108 0) = 0
      · have h := h.1 hc7
        refine R_neS_if (tgt := 33) (pc' := 29) dX9_odds_26 (by decide) hc7 rfl ?_
        refine R_ldc2 (x := (-9223372036854775808)) (pc' := 32) dX9_odds_29 l_RX9_427 (by decide) rfl ?_
        exact Q_lret dX9_odds_32 rfl h
      · have h := h.2 hc7
        refine R_neD_if (tgt := 33) (pc' := 29) dX9_odds_26 (by decide) hc7 h.1 rfl ?_
        have h := h.2
        refine R_iconst (pc' := 34) dX9_odds_33 rfl ?_
        refine R_istore_n (L' := [_, _, _, _, _, _]) (pc' := 35) dX9_odds_34 (by decide) rfl rfl rfl ?_
        refine R_aload_n (pc' := 36) dX9_odds_35 rfl i108.1 rfl ?_
        refine Q_getfi (J := 1) (pc' := 39) rfl dX9_odds_36 l_RX9_13 i108 fd9_1.1 fd9_1.2.1 fd9_1.2.2.1 rfl ?_
        refine R_istore (L' := [_, _, _, _, _, _]) (pc' := 41) dX9_odds_39 (by decide) rfl rfl rfl ?_
        refine R_iconst (pc' := 42) dX9_odds_41 rfl ?_
        refine R_istore (L' := [_, _, _, _, _, _]) (pc' := 44) dX9_odds_42 (by decide) rfl rfl rfl ?_
        exact WP_wk (wk_e (wk_e (wk_e (wk_e (wk_e (wk_e wk_n)))))) h
set_option maxRecDepth 100000 in
theorem s_X9_odds_44 {K : SK} {d : Nat} {c : ct} {Q : ct → Int → Prop} (a1 : Int) (a2 : Int) (a3 : Int) (a4 : Int) (a5 : Int) (h : (ir a5 ∧ ir (c 108 0)) ∧ ((c 108 0) ≤ a5 → CL K d mX9_lowest [(2, 108), (0, a3), (0, (c 108 0)), (0, a2)] c (fun c3 r4 => Q c3 r4)) ∧ (¬ ((c 108 0) ≤ a5) → CV K d mX9_goes [(2, 108), (0, a5), (0, 1)] c (fun c5 => CI K d mX9_allFond [(2, 108)] c5 (fun c7 r8 => (ir r8 ∧ ir a1) ∧ (r8 < a1 → ∀ c11 : ct, c11 = up2 c7 108 1 a4 → WLg K (d + 1) mX9_odds 44 [(2, 108), (0, a1), (0, a2), (0, (a3 + 0)), (0, a4), (0, (a5 + 1))] [] c11 Q) ∧ (¬ (r8 < a1) → ∀ c12 : ct, c12 = up2 c7 108 1 a4 → WLg K (d + 1) mX9_odds 44 [(2, 108), (0, a1), (0, a2), (0, (a3 + 1)), (0, a4), (0, (a5 + 1))] [] c12 Q))))) : WLg K (d + 1) mX9_odds 44 [(2, 108), (0, a1), (0, a2), (0, a3), (0, a4), (0, a5)] [] c Q := by
  refine R_iload (pc' := 46) dX9_odds_44 rfl rfl ?_
  refine R_aload_n (pc' := 47) dX9_odds_46 rfl i108.1 rfl ?_
  refine Q_getfi (J := 0) (pc' := 50) rfl dX9_odds_47 l_RX9_7 i108 fd9_0.1 fd9_0.2.1 fd9_0.2.2.1 rfl ?_
  have hs2 := h.1
  have h := h.2
  refine R_icmp_ge (tgt := 88) (pc' := 53) dX9_odds_50 (by decide) hs2.1 hs2.2 rfl (fun hc1 => ?_) (fun hc1 => ?_)
  · have h := h.1 hc1
    refine R_aload_n (pc' := 89) dX9_odds_88 rfl i108.1 rfl ?_
    refine R_iload_n (pc' := 90) dX9_odds_89 rfl rfl ?_
    refine R_aload_n (pc' := 91) dX9_odds_90 rfl i108.1 rfl ?_
    refine Q_getfi (J := 0) (pc' := 94) rfl dX9_odds_91 l_RX9_7 i108 fd9_0.1 fd9_0.2.1 fd9_0.2.2.1 rfl ?_
    refine R_iload_n (pc' := 95) dX9_odds_94 rfl rfl ?_
    refine Q_callVL (vs := [(0, a3), (0, (c 108 0)), (0, a2)]) (st := []) (pc' := 98) dX9_odds_95 l_RX9_429 i108 (by decide) rfl rfl (Nat.le_of_ble_eq_true rfl) rfl (Nat.zero_le _) (Nat.zero_le _) rfl ?_
    refine CL.mono h (fun c3 r4 h => ?_)
    exact Q_lret dX9_odds_98 rfl h
  · have h := h.2 hc1
    refine R_aload_n (pc' := 54) dX9_odds_53 rfl i108.1 rfl ?_
    refine R_iload (pc' := 56) dX9_odds_54 rfl rfl ?_
    refine R_iconst (pc' := 57) dX9_odds_56 rfl ?_
    refine Q_callVV (vs := [(0, a5), (0, 1)]) (st := []) (pc' := 60) dX9_odds_57 l_RX9_264 i108 (by decide) rfl rfl (Nat.le_of_ble_eq_true rfl) rfl (Nat.zero_le _) (Nat.zero_le _) rfl ?_
    refine CV.mono h (fun c5 h => ?_)
    refine R_iload_n (pc' := 61) dX9_odds_60 rfl rfl ?_
    refine R_aload_n (pc' := 62) dX9_odds_61 rfl i108.1 rfl ?_
    refine Q_callVI (vs := []) (st := [(0, a3)]) (pc' := 65) dX9_odds_62 l_RX9_383 i108 (by decide) rfl rfl (Nat.le_of_ble_eq_true rfl) rfl (Nat.zero_le _) (Nat.zero_le _) rfl ?_
    refine CI.mono h (fun c7 r8 h => ?_)
    refine R_iload_n (pc' := 66) dX9_odds_65 rfl rfl ?_
    have hs10 := h.1
    have h := h.2
    refine R_icmp_lt (tgt := 73) (pc' := 69) dX9_odds_66 (by decide) hs10.1 hs10.2 rfl (fun hc9 => ?_) (fun hc9 => ?_)
    · have h := h.1 hc9
      refine R_iconst (pc' := 74) dX9_odds_73 rfl ?_
      refine R_iadd (pc' := 75) dX9_odds_74 rfl ?_
      refine R_istore_n (L' := [_, _, _, _, _, _]) (pc' := 76) dX9_odds_75 (by decide) rfl rfl rfl ?_
      refine R_aload_n (pc' := 77) dX9_odds_76 rfl i108.1 rfl ?_
      refine R_iload (pc' := 79) dX9_odds_77 rfl rfl ?_
      refine Q_putfi (J := 1) (pc' := 82) rfl dX9_odds_79 l_RX9_13 i108 fd9_1.1 fd9_1.2.1 fd9_1.2.2.2.1 fd9_1.2.2.2.2 rfl (fun c11 hc11 => ?_)
      have h := h c11 hc11
      refine R_iinc (L' := [_, _, _, _, _, _]) (pc' := 85) dX9_odds_82 rfl (by decide) rfl rfl rfl ?_
      refine R_goto (tgt := 44) dX9_odds_85 (by decide) ?_
      exact WP_wk (wk_e (wk_e (wk_e (wk_e (wk_e (wk_e wk_n)))))) h
    · have h := h.2 hc9
      refine R_iconst (pc' := 70) dX9_odds_69 rfl ?_
      refine R_goto (tgt := 74) dX9_odds_70 (by decide) ?_
      refine R_iadd (pc' := 75) dX9_odds_74 rfl ?_
      refine R_istore_n (L' := [_, _, _, _, _, _]) (pc' := 76) dX9_odds_75 (by decide) rfl rfl rfl ?_
      refine R_aload_n (pc' := 77) dX9_odds_76 rfl i108.1 rfl ?_
      refine R_iload (pc' := 79) dX9_odds_77 rfl rfl ?_
      refine Q_putfi (J := 1) (pc' := 82) rfl dX9_odds_79 l_RX9_13 i108 fd9_1.1 fd9_1.2.1 fd9_1.2.2.2.1 fd9_1.2.2.2.2 rfl (fun c12 hc12 => ?_)
      have h := h c12 hc12
      refine R_iinc (L' := [_, _, _, _, _, _]) (pc' := 85) dX9_odds_82 rfl (by decide) rfl rfl rfl ?_
      refine R_goto (tgt := 44) dX9_odds_85 (by decide) ?_
      exact WP_wk (wk_e (wk_e (wk_e (wk_e (wk_e (wk_e wk_n)))))) h
theorem e_X9_odds {K : SK} {d : Nat} {c : ct} {Q : ct → Int → Prop} (a1 : Int) (a2 : Int) (h : WLg K (d + 1) mX9_odds 0 [(2, 108), (0, a1), (0, a2), (9, 0), (9, 0), (9, 0)] [] c Q) : CL K (d + 1) mX9_odds [(2, 108), (0, a1), (0, a2)] c Q := CM_ofS (by decide) (Nat.le_of_ble_eq_true rfl) _ rfl h
set_option maxRecDepth 100000 in
theorem s_X9_mean_0 {K : SK} {d : Nat} {c : ct} {Q : ct → Int → Prop} (a1 : Int) (h : CI K d mX9_in [(2, 108), (0, a1), (0, 0), (0, 1)] c (fun c1 r2 => (r2 = 0 → Q c1 (-9223372036854775808)) ∧ (¬ (r2 = 0) → ir r2 ∧ (ir (c1 108 0)) ∧ ((c1 108 0) ≤ 0 → Q c1 (-9223372036854775808)) ∧ (¬ ((c1 108 0) ≤ 0) → CI K d mX9_allFond [(2, 108)] c1 (fun c6 r7 => CL K d mX9_lowest [(2, 108), (0, r7), (0, (c6 108 0)), (0, a1)] c6 (fun c8 r9 => Q c8 r9)))))) : WLg K (d + 1) mX9_mean 0 [(2, 108), (0, a1)] [] c Q := by
  refine R_aload_n (pc' := 1) dX9_mean_0 rfl i108.1 rfl ?_
  refine R_iload_n (pc' := 2) dX9_mean_1 rfl rfl ?_
  refine R_iconst (pc' := 3) dX9_mean_2 rfl ?_
  refine R_iconst (pc' := 4) dX9_mean_3 rfl ?_
  refine Q_callVI (vs := [(0, a1), (0, 0), (0, 1)]) (st := []) (pc' := 7) dX9_mean_4 l_RX9_252 i108 (by decide) rfl rfl (Nat.le_of_ble_eq_true rfl) rfl (Nat.zero_le _) (Nat.zero_le _) rfl ?_
  refine CI.mono h (fun c1 r2 h => ?_)
  by_cases hc3 : r2 = 0
  · have h := h.1 hc3
    refine R_eqS_if (tgt := 33) (pc' := 10) dX9_mean_7 (by decide) hc3 rfl ?_
    refine R_ldc2 (x := (-9223372036854775808)) (pc' := 36) dX9_mean_33 l_RX9_427 (by decide) rfl ?_
    exact Q_lret dX9_mean_36 rfl h
  · have h := h.2 hc3
    refine R_eqD_if (tgt := 33) (pc' := 10) dX9_mean_7 (by decide) hc3 h.1 rfl ?_
    have h := h.2
    refine R_aload_n (pc' := 11) dX9_mean_10 rfl i108.1 rfl ?_
    refine Q_getfi (J := 0) (pc' := 14) rfl dX9_mean_11 l_RX9_7 i108 fd9_0.1 fd9_0.2.1 fd9_0.2.2.1 rfl ?_
    have hs5 := h.1
    have h := h.2
    refine R_if_le (tgt := 33) (pc' := 17) dX9_mean_14 (by decide) hs5  rfl (fun hc4 => ?_) (fun hc4 => ?_)
    · have h := h.1 hc4
      refine R_ldc2 (x := (-9223372036854775808)) (pc' := 36) dX9_mean_33 l_RX9_427 (by decide) rfl ?_
      exact Q_lret dX9_mean_36 rfl h
    · have h := h.2 hc4
      refine R_aload_n (pc' := 18) dX9_mean_17 rfl i108.1 rfl ?_
      refine R_aload_n (pc' := 19) dX9_mean_18 rfl i108.1 rfl ?_
      refine Q_callVI (vs := []) (st := [(2, 108)]) (pc' := 22) dX9_mean_19 l_RX9_383 i108 (by decide) rfl rfl (Nat.le_of_ble_eq_true rfl) rfl (Nat.zero_le _) (Nat.zero_le _) rfl ?_
      refine CI.mono h (fun c6 r7 h => ?_)
      refine R_aload_n (pc' := 23) dX9_mean_22 rfl i108.1 rfl ?_
      refine Q_getfi (J := 0) (pc' := 26) rfl dX9_mean_23 l_RX9_7 i108 fd9_0.1 fd9_0.2.1 fd9_0.2.2.1 rfl ?_
      refine R_iload_n (pc' := 27) dX9_mean_26 rfl rfl ?_
      refine Q_callVL (vs := [(0, r7), (0, (c6 108 0)), (0, a1)]) (st := []) (pc' := 30) dX9_mean_27 l_RX9_429 i108 (by decide) rfl rfl (Nat.le_of_ble_eq_true rfl) rfl (Nat.zero_le _) (Nat.zero_le _) rfl ?_
      refine CL.mono h (fun c8 r9 h => ?_)
      refine R_goto (tgt := 36) dX9_mean_30 (by decide) ?_
      exact Q_lret dX9_mean_36 rfl h
theorem e_X9_mean {K : SK} {d : Nat} {c : ct} {Q : ct → Int → Prop} (a1 : Int) (h : WLg K (d + 1) mX9_mean 0 [(2, 108), (0, a1)] [] c Q) : CL K (d + 1) mX9_mean [(2, 108), (0, a1)] c Q := CM_ofS (by decide) (Nat.le_of_ble_eq_true rfl) _ rfl h
set_option maxRecDepth 100000 in
theorem s_X9_plan_0 {K : SK} {d : Nat} {c : ct} {Q : ct → Int → Prop} (a1 : Int) (a2 : Int) (h : (a1 = (-1) → ∀ c2 : ct, c2 = up2 c 108 44 0 → Q c2 0) ∧ (¬ (a1 = (-1)) → ir a1 ∧ CI K d mX9_in [(2, 108), (0, a1), (0, 0), (0, 3)] c (fun c3 r4 => (r4 = 0 → Q c3 (-1)) ∧ (¬ (r4 = 0) → ir r4 ∧ CI K d mX9_in [(2, 108), (0, a1), (0, 1), (0, 2)] c3 (fun c6 r7 => (r7 = 0 → (a1 = 3 → CI K d mX9_isSeat [(2, 108), (0, a2)] c6 (fun c10 r11 => (r11 = 0 → Q c10 (-1)) ∧ (¬ (r11 = 0) → ir r11 ∧ WI K (d + 1) mX9_plan 55 [(2, 108), (0, a1), (0, a2)] [] c10 Q))) ∧ (¬ (a1 = 3) → ir a1 ∧ WI K (d + 1) mX9_plan 55 [(2, 108), (0, a1), (0, a2)] [] c6 Q)) ∧ (¬ (r7 = 0) → ir r7 ∧ CI K d mX9_isGuest [(2, 108), (0, a2)] c6 (fun c13 r14 => (r14 = 0 → Q c13 (-1)) ∧ (¬ (r14 = 0) → ir r14 ∧ (a1 = 3 → CI K d mX9_isSeat [(2, 108), (0, a2)] c13 (fun c17 r18 => (r18 = 0 → Q c17 (-1)) ∧ (¬ (r18 = 0) → ir r18 ∧ WI K (d + 1) mX9_plan 55 [(2, 108), (0, a1), (0, a2)] [] c17 Q))) ∧ (¬ (a1 = 3) → ir a1 ∧ WI K (d + 1) mX9_plan 55 [(2, 108), (0, a1), (0, a2)] [] c13 Q))))))))) : WI K (d + 1) mX9_plan 0 [(2, 108), (0, a1), (0, a2)] [] c Q := by
  refine R_iload_n (pc' := 1) dX9_plan_0 rfl rfl ?_
  refine R_iconst (pc' := 2) dX9_plan_1 rfl ?_
  by_cases hc1 : a1 = (-1)
  · have h := h.1 hc1
    refine R_neS_ic (tgt := 12) (pc' := 5) dX9_plan_2 (by decide) hc1 rfl ?_
    refine R_aload_n (pc' := 6) dX9_plan_5 rfl i108.1 rfl ?_
    refine R_iconst (pc' := 7) dX9_plan_6 rfl ?_
    refine Q_putfi (J := 44) (pc' := 10) rfl dX9_plan_7 l_RX9_144 i108 fd9_44.1 fd9_44.2.1 fd9_44.2.2.2.1 fd9_44.2.2.2.2 rfl (fun c2 hc2 => ?_)
    have h := h c2 hc2
    refine R_iconst (pc' := 11) dX9_plan_10 rfl ?_
    exact Q_iret dX9_plan_11 rfl h
  · have h := h.2 hc1
    refine R_neD_ic (tgt := 12) (pc' := 5) dX9_plan_2 (by decide) hc1 ⟨h.1, ir_l (by decide) (by decide)⟩ rfl ?_
    have h := h.2
    refine R_aload_n (pc' := 13) dX9_plan_12 rfl i108.1 rfl ?_
    refine R_iload_n (pc' := 14) dX9_plan_13 rfl rfl ?_
    refine R_iconst (pc' := 15) dX9_plan_14 rfl ?_
    refine R_iconst (pc' := 16) dX9_plan_15 rfl ?_
    refine Q_callVI (vs := [(0, a1), (0, 0), (0, 3)]) (st := []) (pc' := 19) dX9_plan_16 l_RX9_252 i108 (by decide) rfl rfl (Nat.le_of_ble_eq_true rfl) rfl (Nat.zero_le _) (Nat.zero_le _) rfl ?_
    refine CI.mono h (fun c3 r4 h => ?_)
    by_cases hc5 : r4 = 0
    · have h := h.1 hc5
      refine R_eqS_if (tgt := 53) (pc' := 22) dX9_plan_19 (by decide) hc5 rfl ?_
      refine R_iconst (pc' := 54) dX9_plan_53 rfl ?_
      exact Q_iret dX9_plan_54 rfl h
    · have h := h.2 hc5
      refine R_eqD_if (tgt := 53) (pc' := 22) dX9_plan_19 (by decide) hc5 h.1 rfl ?_
      have h := h.2
      refine R_aload_n (pc' := 23) dX9_plan_22 rfl i108.1 rfl ?_
      refine R_iload_n (pc' := 24) dX9_plan_23 rfl rfl ?_
      refine R_iconst (pc' := 25) dX9_plan_24 rfl ?_
      refine R_iconst (pc' := 26) dX9_plan_25 rfl ?_
      refine Q_callVI (vs := [(0, a1), (0, 1), (0, 2)]) (st := []) (pc' := 29) dX9_plan_26 l_RX9_252 i108 (by decide) rfl rfl (Nat.le_of_ble_eq_true rfl) rfl (Nat.zero_le _) (Nat.zero_le _) rfl ?_
      refine CI.mono h (fun c6 r7 h => ?_)
      by_cases hc8 : r7 = 0
      · have h := h.1 hc8
        refine R_eqS_if (tgt := 40) (pc' := 32) dX9_plan_29 (by decide) hc8 rfl ?_
        refine R_iload_n (pc' := 41) dX9_plan_40 rfl rfl ?_
        refine R_iconst (pc' := 42) dX9_plan_41 rfl ?_
        by_cases hc9 : a1 = 3
        · have h := h.1 hc9
          refine R_neS_ic (tgt := 55) (pc' := 45) dX9_plan_42 (by decide) hc9 rfl ?_
          refine R_aload_n (pc' := 46) dX9_plan_45 rfl i108.1 rfl ?_
          refine R_iload_n (pc' := 47) dX9_plan_46 rfl rfl ?_
          refine Q_callVI (vs := [(0, a2)]) (st := []) (pc' := 50) dX9_plan_47 l_RX9_268 i108 (by decide) rfl rfl (Nat.le_of_ble_eq_true rfl) rfl (Nat.zero_le _) (Nat.zero_le _) rfl ?_
          refine CI.mono h (fun c10 r11 h => ?_)
          by_cases hc12 : r11 = 0
          · have h := h.1 hc12
            refine R_neS_if (tgt := 55) (pc' := 53) dX9_plan_50 (by decide) hc12 rfl ?_
            refine R_iconst (pc' := 54) dX9_plan_53 rfl ?_
            exact Q_iret dX9_plan_54 rfl h
          · have h := h.2 hc12
            refine R_neD_if (tgt := 55) (pc' := 53) dX9_plan_50 (by decide) hc12 h.1 rfl ?_
            have h := h.2
            exact WP_wk (wk_e (wk_e (wk_e wk_n))) h
        · have h := h.2 hc9
          refine R_neD_ic (tgt := 55) (pc' := 45) dX9_plan_42 (by decide) hc9 ⟨h.1, ir_l (by decide) (by decide)⟩ rfl ?_
          have h := h.2
          exact WP_wk (wk_e (wk_e (wk_e wk_n))) h
      · have h := h.2 hc8
        refine R_eqD_if (tgt := 40) (pc' := 32) dX9_plan_29 (by decide) hc8 h.1 rfl ?_
        have h := h.2
        refine R_aload_n (pc' := 33) dX9_plan_32 rfl i108.1 rfl ?_
        refine R_iload_n (pc' := 34) dX9_plan_33 rfl rfl ?_
        refine Q_callVI (vs := [(0, a2)]) (st := []) (pc' := 37) dX9_plan_34 l_RX9_260 i108 (by decide) rfl rfl (Nat.le_of_ble_eq_true rfl) rfl (Nat.zero_le _) (Nat.zero_le _) rfl ?_
        refine CI.mono h (fun c13 r14 h => ?_)
        by_cases hc15 : r14 = 0
        · have h := h.1 hc15
          refine R_eqS_if (tgt := 53) (pc' := 40) dX9_plan_37 (by decide) hc15 rfl ?_
          refine R_iconst (pc' := 54) dX9_plan_53 rfl ?_
          exact Q_iret dX9_plan_54 rfl h
        · have h := h.2 hc15
          refine R_eqD_if (tgt := 53) (pc' := 40) dX9_plan_37 (by decide) hc15 h.1 rfl ?_
          have h := h.2
          refine R_iload_n (pc' := 41) dX9_plan_40 rfl rfl ?_
          refine R_iconst (pc' := 42) dX9_plan_41 rfl ?_
          by_cases hc16 : a1 = 3
          · have h := h.1 hc16
            refine R_neS_ic (tgt := 55) (pc' := 45) dX9_plan_42 (by decide) hc16 rfl ?_
            refine R_aload_n (pc' := 46) dX9_plan_45 rfl i108.1 rfl ?_
            refine R_iload_n (pc' := 47) dX9_plan_46 rfl rfl ?_
            refine Q_callVI (vs := [(0, a2)]) (st := []) (pc' := 50) dX9_plan_47 l_RX9_268 i108 (by decide) rfl rfl (Nat.le_of_ble_eq_true rfl) rfl (Nat.zero_le _) (Nat.zero_le _) rfl ?_
            refine CI.mono h (fun c17 r18 h => ?_)
            by_cases hc19 : r18 = 0
            · have h := h.1 hc19
              refine R_neS_if (tgt := 55) (pc' := 53) dX9_plan_50 (by decide) hc19 rfl ?_
              refine R_iconst (pc' := 54) dX9_plan_53 rfl ?_
              exact Q_iret dX9_plan_54 rfl h
            · have h := h.2 hc19
              refine R_neD_if (tgt := 55) (pc' := 53) dX9_plan_50 (by decide) hc19 h.1 rfl ?_
              have h := h.2
              exact WP_wk (wk_e (wk_e (wk_e wk_n))) h
          · have h := h.2 hc16
            refine R_neD_ic (tgt := 55) (pc' := 45) dX9_plan_42 (by decide) hc16 ⟨h.1, ir_l (by decide) (by decide)⟩ rfl ?_
            have h := h.2
            exact WP_wk (wk_e (wk_e (wk_e wk_n))) h
set_option maxRecDepth 100000 in
theorem s_X9_plan_55 {K : SK} {d : Nat} {c : ct} {Q : ct → Int → Prop} (a1 : Int) (a2 : Int) (h : ((c 108 44) = 10 → Q c (-4)) ∧ (¬ ((c 108 44) = 10) → ir (c 108 44) ∧ ((0 ≤ (c 108 44) ∧ (c 108 44) < 10)) ∧ ∀ c2 : ct, c2 = up2 c 132 (c 108 44) a1 → (ir a1) ∧ (a1 ≤ 0 → ((0 ≤ (c2 108 44) ∧ (c2 108 44) < 10)) ∧ ∀ c6 : ct, c6 = up2 c2 133 (c2 108 44) 0 → ∀ c8 : ct, c8 = up2 c6 108 44 ((c6 108 44) + 1) → Q c8 (c8 108 44)) ∧ (¬ (a1 ≤ 0) → ((0 ≤ (c2 108 44) ∧ (c2 108 44) < 10)) ∧ ∀ c9 : ct, c9 = up2 c2 133 (c2 108 44) a2 → ∀ c11 : ct, c11 = up2 c9 108 44 ((c9 108 44) + 1) → Q c11 (c11 108 44)))) : WI K (d + 1) mX9_plan 55 [(2, 108), (0, a1), (0, a2)] [] c Q := by
  refine R_aload_n (pc' := 56) dX9_plan_55 rfl i108.1 rfl ?_
  refine Q_getfi (J := 44) (pc' := 59) rfl dX9_plan_56 l_RX9_144 i108 fd9_44.1 fd9_44.2.1 fd9_44.2.2.1 rfl ?_
  refine R_bipush (pc' := 61) dX9_plan_59 (by decide) rfl ?_
  by_cases hc1 : (c 108 44) = 10
  · have h := h.1 hc1
    refine R_neS_ic (tgt := 67) (pc' := 64) dX9_plan_61 (by decide) hc1 rfl ?_
    refine R_bipush (pc' := 66) dX9_plan_64 (by decide) rfl ?_
    exact Q_iret dX9_plan_66 rfl h
  · have h := h.2 hc1
    refine R_neD_ic (tgt := 67) (pc' := 64) dX9_plan_61 (by decide) hc1 ⟨h.1, ir_l (by decide) (by decide)⟩ rfl ?_
    have h := h.2
    refine R_aload_n (pc' := 68) dX9_plan_67 rfl i108.1 rfl ?_
    refine Q_getfr (v := 132) (J := 46) (pc' := 71) rfl dX9_plan_68 l_RX9_150 i108 fd9_46.1 fd9_46.2.1 fd9_46.2.2.1 fd9_46.2.2.2 f108_46 rfl ?_
    refine R_aload_n (pc' := 72) dX9_plan_71 rfl i108.1 rfl ?_
    refine Q_getfi (J := 44) (pc' := 75) rfl dX9_plan_72 l_RX9_144 i108 fd9_44.1 fd9_44.2.1 fd9_44.2.2.1 rfl ?_
    refine R_iload_n (pc' := 76) dX9_plan_75 rfl rfl ?_
    have hs3 := h.1
    have h := h.2
    refine Q_iastore (N := 10) (pc' := 77) rfl dX9_plan_76 i132 (by decide) hs3  rfl (fun c2 hc2 => ?_)
    have h := h c2 hc2
    refine R_aload_n (pc' := 78) dX9_plan_77 rfl i108.1 rfl ?_
    refine Q_getfr (v := 133) (J := 47) (pc' := 81) rfl dX9_plan_78 l_RX9_153 i108 fd9_47.1 fd9_47.2.1 fd9_47.2.2.1 fd9_47.2.2.2 f108_47 rfl ?_
    refine R_aload_n (pc' := 82) dX9_plan_81 rfl i108.1 rfl ?_
    refine Q_getfi (J := 44) (pc' := 85) rfl dX9_plan_82 l_RX9_144 i108 fd9_44.1 fd9_44.2.1 fd9_44.2.2.1 rfl ?_
    refine R_iload_n (pc' := 86) dX9_plan_85 rfl rfl ?_
    have hs5 := h.1
    have h := h.2
    refine R_if_le (tgt := 93) (pc' := 89) dX9_plan_86 (by decide) hs5  rfl (fun hc4 => ?_) (fun hc4 => ?_)
    · have h := h.1 hc4
      refine R_iconst (pc' := 94) dX9_plan_93 rfl ?_
      have hs7 := h.1
      have h := h.2
      refine Q_iastore (N := 10) (pc' := 95) rfl dX9_plan_94 i133 (by decide) hs7  rfl (fun c6 hc6 => ?_)
      have h := h c6 hc6
      refine R_aload_n (pc' := 96) dX9_plan_95 rfl i108.1 rfl ?_
      refine R_dup (pc' := 97) dX9_plan_96 (by simp) rfl ?_
      refine Q_getfi (J := 44) (pc' := 100) rfl dX9_plan_97 l_RX9_144 i108 fd9_44.1 fd9_44.2.1 fd9_44.2.2.1 rfl ?_
      refine R_iconst (pc' := 101) dX9_plan_100 rfl ?_
      refine R_iadd (pc' := 102) dX9_plan_101 rfl ?_
      refine Q_putfi (J := 44) (pc' := 105) rfl dX9_plan_102 l_RX9_144 i108 fd9_44.1 fd9_44.2.1 fd9_44.2.2.2.1 fd9_44.2.2.2.2 rfl (fun c8 hc8 => ?_)
      have h := h c8 hc8
      refine R_aload_n (pc' := 106) dX9_plan_105 rfl i108.1 rfl ?_
      refine Q_getfi (J := 44) (pc' := 109) rfl dX9_plan_106 l_RX9_144 i108 fd9_44.1 fd9_44.2.1 fd9_44.2.2.1 rfl ?_
      exact Q_iret dX9_plan_109 rfl h
    · have h := h.2 hc4
      refine R_iload_n (pc' := 90) dX9_plan_89 rfl rfl ?_
      refine R_goto (tgt := 94) dX9_plan_90 (by decide) ?_
      have hs10 := h.1
      have h := h.2
      refine Q_iastore (N := 10) (pc' := 95) rfl dX9_plan_94 i133 (by decide) hs10  rfl (fun c9 hc9 => ?_)
      have h := h c9 hc9
      refine R_aload_n (pc' := 96) dX9_plan_95 rfl i108.1 rfl ?_
      refine R_dup (pc' := 97) dX9_plan_96 (by simp) rfl ?_
      refine Q_getfi (J := 44) (pc' := 100) rfl dX9_plan_97 l_RX9_144 i108 fd9_44.1 fd9_44.2.1 fd9_44.2.2.1 rfl ?_
      refine R_iconst (pc' := 101) dX9_plan_100 rfl ?_
      refine R_iadd (pc' := 102) dX9_plan_101 rfl ?_
      refine Q_putfi (J := 44) (pc' := 105) rfl dX9_plan_102 l_RX9_144 i108 fd9_44.1 fd9_44.2.1 fd9_44.2.2.2.1 fd9_44.2.2.2.2 rfl (fun c11 hc11 => ?_)
      have h := h c11 hc11
      refine R_aload_n (pc' := 106) dX9_plan_105 rfl i108.1 rfl ?_
      refine Q_getfi (J := 44) (pc' := 109) rfl dX9_plan_106 l_RX9_144 i108 fd9_44.1 fd9_44.2.1 fd9_44.2.2.1 rfl ?_
      exact Q_iret dX9_plan_109 rfl h
theorem e_X9_plan {K : SK} {d : Nat} {c : ct} {Q : ct → Int → Prop} (a1 : Int) (a2 : Int) (h : WI K (d + 1) mX9_plan 0 [(2, 108), (0, a1), (0, a2)] [] c Q) : CI K (d + 1) mX9_plan [(2, 108), (0, a1), (0, a2)] c Q := CM_ofS (by decide) (Nat.le_of_ble_eq_true rfl) _ rfl h
set_option maxRecDepth 100000 in
theorem s_X9_ends_0 {K : SK} {d : Nat} {c : ct} {Q : ct → Int → Prop} (a1 : Int) (h : CI K d mX9_in [(2, 108), (0, a1), (0, 0), (0, 1)] c (fun c1 r2 => (r2 = 0 → Q c1 (-1)) ∧ (¬ (r2 = 0) → ir r2 ∧ CV K d mX9_save [(2, 108)] c1 (fun c4 => WI K (d + 1) mX9_ends 18 [(2, 108), (0, a1), (0, 0)] [] c4 Q)))) : WI K (d + 1) mX9_ends 0 [(2, 108), (0, a1), (9, 0)] [] c Q := by
  refine R_aload_n (pc' := 1) dX9_ends_0 rfl i108.1 rfl ?_
  refine R_iload_n (pc' := 2) dX9_ends_1 rfl rfl ?_
  refine R_iconst (pc' := 3) dX9_ends_2 rfl ?_
  refine R_iconst (pc' := 4) dX9_ends_3 rfl ?_
  refine Q_callVI (vs := [(0, a1), (0, 0), (0, 1)]) (st := []) (pc' := 7) dX9_ends_4 l_RX9_252 i108 (by decide) rfl rfl (Nat.le_of_ble_eq_true rfl) rfl (Nat.zero_le _) (Nat.zero_le _) rfl ?_
  refine CI.mono h (fun c1 r2 h => ?_)
  by_cases hc3 : r2 = 0
  · have h := h.1 hc3
    refine R_neS_if (tgt := 12) (pc' := 10) dX9_ends_7 (by decide) hc3 rfl ?_
    refine R_iconst (pc' := 11) dX9_ends_10 rfl ?_
    exact Q_iret dX9_ends_11 rfl h
  · have h := h.2 hc3
    refine R_neD_if (tgt := 12) (pc' := 10) dX9_ends_7 (by decide) hc3 h.1 rfl ?_
    have h := h.2
    refine R_aload_n (pc' := 13) dX9_ends_12 rfl i108.1 rfl ?_
    refine Q_callVV (vs := []) (st := []) (pc' := 16) dX9_ends_13 l_RX9_405 i108 (by decide) rfl rfl (Nat.le_of_ble_eq_true rfl) rfl (Nat.zero_le _) (Nat.zero_le _) rfl ?_
    refine CV.mono h (fun c4 h => ?_)
    refine R_iconst (pc' := 17) dX9_ends_16 rfl ?_
    refine R_istore_n (L' := [_, _, _]) (pc' := 18) dX9_ends_17 (by decide) rfl rfl rfl ?_
    exact WP_wk (wk_e (wk_e (wk_e wk_n))) h
set_option maxRecDepth 100000 in
theorem s_X9_ends_18 {K : SK} {d : Nat} {c : ct} {Q : ct → Int → Prop} (a1 : Int) (a2 : Int) (h : (ir a2 ∧ ir (c 108 44)) ∧ ((c 108 44) ≤ a2 → (a1 = 0 → CV K d mX9_putBack [(2, 108)] c (fun c4 => Q c4 (c 108 2))) ∧ (¬ (a1 = 0) → ir a1 ∧ CI K d mX9_usesMore [(2, 108)] c (fun c6 r7 => CV K d mX9_putBack [(2, 108)] c6 (fun c8 => Q c8 r7)))) ∧ (¬ ((c 108 44) ≤ a2) → ((0 ≤ a2 ∧ a2 < 10)) ∧ ((c 132 a2) = 0 → CV K d mX9_goYear [(2, 108)] c (fun c12 => WI K (d + 1) mX9_ends 39 [(2, 108), (0, a1), (0, a2)] [] c12 Q)) ∧ (¬ ((c 132 a2) = 0) → ir (c 132 a2) ∧ WI K (d + 1) mX9_ends 39 [(2, 108), (0, a1), (0, a2)] [] c Q))) : WI K (d + 1) mX9_ends 18 [(2, 108), (0, a1), (0, a2)] [] c Q := by
  refine R_iload_n (pc' := 19) dX9_ends_18 rfl rfl ?_
  refine R_aload_n (pc' := 20) dX9_ends_19 rfl i108.1 rfl ?_
  refine Q_getfi (J := 44) (pc' := 23) rfl dX9_ends_20 l_RX9_144 i108 fd9_44.1 fd9_44.2.1 fd9_44.2.2.1 rfl ?_
  have hs2 := h.1
  have h := h.2
  refine R_icmp_ge (tgt := 105) (pc' := 26) dX9_ends_23 (by decide) hs2.1 hs2.2 rfl (fun hc1 => ?_) (fun hc1 => ?_)
  · have h := h.1 hc1
    refine R_iload_n (pc' := 106) dX9_ends_105 rfl rfl ?_
    by_cases hc3 : a1 = 0
    · have h := h.1 hc3
      refine R_neS_if (tgt := 116) (pc' := 109) dX9_ends_106 (by decide) hc3 rfl ?_
      refine R_aload_n (pc' := 110) dX9_ends_109 rfl i108.1 rfl ?_
      refine Q_getfi (J := 2) (pc' := 113) rfl dX9_ends_110 l_RX9_16 i108 fd9_2.1 fd9_2.2.1 fd9_2.2.2.1 rfl ?_
      refine R_goto (tgt := 120) dX9_ends_113 (by decide) ?_
      refine R_istore_n (L' := [_, _, _]) (pc' := 121) dX9_ends_120 (by decide) rfl rfl rfl ?_
      refine R_aload_n (pc' := 122) dX9_ends_121 rfl i108.1 rfl ?_
      refine Q_callVV (vs := []) (st := []) (pc' := 125) dX9_ends_122 l_RX9_411 i108 (by decide) rfl rfl (Nat.le_of_ble_eq_true rfl) rfl (Nat.zero_le _) (Nat.zero_le _) rfl ?_
      refine CV.mono h (fun c4 h => ?_)
      refine R_iload_n (pc' := 126) dX9_ends_125 rfl rfl ?_
      exact Q_iret dX9_ends_126 rfl h
    · have h := h.2 hc3
      refine R_neD_if (tgt := 116) (pc' := 109) dX9_ends_106 (by decide) hc3 h.1 rfl ?_
      have h := h.2
      refine R_aload_n (pc' := 117) dX9_ends_116 rfl i108.1 rfl ?_
      refine Q_callVI (vs := []) (st := []) (pc' := 120) dX9_ends_117 l_RX9_408 i108 (by decide) rfl rfl (Nat.le_of_ble_eq_true rfl) rfl (Nat.zero_le _) (Nat.zero_le _) rfl ?_
      refine CI.mono h (fun c6 r7 h => ?_)
      refine R_istore_n (L' := [_, _, _]) (pc' := 121) dX9_ends_120 (by decide) rfl rfl rfl ?_
      refine R_aload_n (pc' := 122) dX9_ends_121 rfl i108.1 rfl ?_
      refine Q_callVV (vs := []) (st := []) (pc' := 125) dX9_ends_122 l_RX9_411 i108 (by decide) rfl rfl (Nat.le_of_ble_eq_true rfl) rfl (Nat.zero_le _) (Nat.zero_le _) rfl ?_
      refine CV.mono h (fun c8 h => ?_)
      refine R_iload_n (pc' := 126) dX9_ends_125 rfl rfl ?_
      exact Q_iret dX9_ends_126 rfl h
  · have h := h.2 hc1
    refine R_aload_n (pc' := 27) dX9_ends_26 rfl i108.1 rfl ?_
    refine Q_getfr (v := 132) (J := 46) (pc' := 30) rfl dX9_ends_27 l_RX9_150 i108 fd9_46.1 fd9_46.2.1 fd9_46.2.2.1 fd9_46.2.2.2 f108_46 rfl ?_
    refine R_iload_n (pc' := 31) dX9_ends_30 rfl rfl ?_
    have hs10 := h.1
    have h := h.2
    refine Q_iaload (N := 10) (pc' := 32) rfl dX9_ends_31 i132 (by decide) hs10 rfl ?_
    by_cases hc11 : (c 132 a2) = 0
    · have h := h.1 hc11
      refine R_neS_if (tgt := 39) (pc' := 35) dX9_ends_32 (by decide) hc11 rfl ?_
      refine R_aload_n (pc' := 36) dX9_ends_35 rfl i108.1 rfl ?_
      refine Q_callVV (vs := []) (st := []) (pc' := 39) dX9_ends_36 l_RX9_395 i108 (by decide) rfl rfl (Nat.le_of_ble_eq_true rfl) rfl (Nat.zero_le _) (Nat.zero_le _) rfl ?_
      refine CV.mono h (fun c12 h => ?_)
      exact WP_wk (wk_e (wk_e (wk_e wk_n))) h
    · have h := h.2 hc11
      refine R_neD_if (tgt := 39) (pc' := 35) dX9_ends_32 (by decide) hc11 h.1 rfl ?_
      have h := h.2
      exact WP_wk (wk_e (wk_e (wk_e wk_n))) h
set_option maxRecDepth 100000 in
theorem s_X9_ends_39 {K : SK} {d : Nat} {c : ct} {Q : ct → Int → Prop} (a1 : Int) (a2 : Int) (h : ((0 ≤ a2 ∧ a2 < 10)) ∧ CI K d mX9_in [(2, 108), (0, (c 132 a2)), (0, 1), (0, 2)] c (fun c2 r3 => (r3 = 0 → WI K (d + 1) mX9_ends 79 [(2, 108), (0, a1), (0, a2)] [] c2 Q) ∧ (¬ (r3 = 0) → ir r3 ∧ ((0 ≤ a2 ∧ a2 < 10)) ∧ ((0 ≤ a2 ∧ a2 < 10)) ∧ ((c2 132 a2) = 1 → CV K d mX9_goes [(2, 108), (0, (c2 133 a2)), (0, 1)] c2 (fun c8 => WI K (d + 1) mX9_ends 79 [(2, 108), (0, a1), (0, a2)] [] c8 Q)) ∧ (¬ ((c2 132 a2) = 1) → ir (c2 132 a2) ∧ CV K d mX9_goes [(2, 108), (0, (c2 133 a2)), (0, 0)] c2 (fun c10 => WI K (d + 1) mX9_ends 79 [(2, 108), (0, a1), (0, a2)] [] c10 Q))))) : WI K (d + 1) mX9_ends 39 [(2, 108), (0, a1), (0, a2)] [] c Q := by
  refine R_aload_n (pc' := 40) dX9_ends_39 rfl i108.1 rfl ?_
  refine R_aload_n (pc' := 41) dX9_ends_40 rfl i108.1 rfl ?_
  refine Q_getfr (v := 132) (J := 46) (pc' := 44) rfl dX9_ends_41 l_RX9_150 i108 fd9_46.1 fd9_46.2.1 fd9_46.2.2.1 fd9_46.2.2.2 f108_46 rfl ?_
  refine R_iload_n (pc' := 45) dX9_ends_44 rfl rfl ?_
  have hs1 := h.1
  have h := h.2
  refine Q_iaload (N := 10) (pc' := 46) rfl dX9_ends_45 i132 (by decide) hs1 rfl ?_
  refine R_iconst (pc' := 47) dX9_ends_46 rfl ?_
  refine R_iconst (pc' := 48) dX9_ends_47 rfl ?_
  refine Q_callVI (vs := [(0, (c 132 a2)), (0, 1), (0, 2)]) (st := []) (pc' := 51) dX9_ends_48 l_RX9_252 i108 (by decide) rfl rfl (Nat.le_of_ble_eq_true rfl) rfl (Nat.zero_le _) (Nat.zero_le _) rfl ?_
  refine CI.mono h (fun c2 r3 h => ?_)
  by_cases hc4 : r3 = 0
  · have h := h.1 hc4
    refine R_eqS_if (tgt := 79) (pc' := 54) dX9_ends_51 (by decide) hc4 rfl ?_
    exact WP_wk (wk_e (wk_e (wk_e wk_n))) h
  · have h := h.2 hc4
    refine R_eqD_if (tgt := 79) (pc' := 54) dX9_ends_51 (by decide) hc4 h.1 rfl ?_
    have h := h.2
    refine R_aload_n (pc' := 55) dX9_ends_54 rfl i108.1 rfl ?_
    refine R_aload_n (pc' := 56) dX9_ends_55 rfl i108.1 rfl ?_
    refine Q_getfr (v := 133) (J := 47) (pc' := 59) rfl dX9_ends_56 l_RX9_153 i108 fd9_47.1 fd9_47.2.1 fd9_47.2.2.1 fd9_47.2.2.2 f108_47 rfl ?_
    refine R_iload_n (pc' := 60) dX9_ends_59 rfl rfl ?_
    have hs5 := h.1
    have h := h.2
    refine Q_iaload (N := 10) (pc' := 61) rfl dX9_ends_60 i133 (by decide) hs5 rfl ?_
    refine R_aload_n (pc' := 62) dX9_ends_61 rfl i108.1 rfl ?_
    refine Q_getfr (v := 132) (J := 46) (pc' := 65) rfl dX9_ends_62 l_RX9_150 i108 fd9_46.1 fd9_46.2.1 fd9_46.2.2.1 fd9_46.2.2.2 f108_46 rfl ?_
    refine R_iload_n (pc' := 66) dX9_ends_65 rfl rfl ?_
    have hs6 := h.1
    have h := h.2
    refine Q_iaload (N := 10) (pc' := 67) rfl dX9_ends_66 i132 (by decide) hs6 rfl ?_
    refine R_iconst (pc' := 68) dX9_ends_67 rfl ?_
    by_cases hc7 : (c2 132 a2) = 1
    · have h := h.1 hc7
      refine R_neS_ic (tgt := 75) (pc' := 71) dX9_ends_68 (by decide) hc7 rfl ?_
      refine R_iconst (pc' := 72) dX9_ends_71 rfl ?_
      refine R_goto (tgt := 76) dX9_ends_72 (by decide) ?_
      refine Q_callVV (vs := [(0, (c2 133 a2)), (0, 1)]) (st := []) (pc' := 79) dX9_ends_76 l_RX9_264 i108 (by decide) rfl rfl (Nat.le_of_ble_eq_true rfl) rfl (Nat.zero_le _) (Nat.zero_le _) rfl ?_
      refine CV.mono h (fun c8 h => ?_)
      exact WP_wk (wk_e (wk_e (wk_e wk_n))) h
    · have h := h.2 hc7
      refine R_neD_ic (tgt := 75) (pc' := 71) dX9_ends_68 (by decide) hc7 ⟨h.1, ir_l (by decide) (by decide)⟩ rfl ?_
      have h := h.2
      refine R_iconst (pc' := 76) dX9_ends_75 rfl ?_
      refine Q_callVV (vs := [(0, (c2 133 a2)), (0, 0)]) (st := []) (pc' := 79) dX9_ends_76 l_RX9_264 i108 (by decide) rfl rfl (Nat.le_of_ble_eq_true rfl) rfl (Nat.zero_le _) (Nat.zero_le _) rfl ?_
      refine CV.mono h (fun c10 h => ?_)
      exact WP_wk (wk_e (wk_e (wk_e wk_n))) h
set_option maxRecDepth 100000 in
theorem s_X9_ends_79 {K : SK} {d : Nat} {c : ct} {Q : ct → Int → Prop} (a1 : Int) (a2 : Int) (h : ((0 ≤ a2 ∧ a2 < 10)) ∧ ((c 132 a2) = 3 → ((0 ≤ a2 ∧ a2 < 10)) ∧ CV K d mX9_pours [(2, 108), (0, (c 133 a2))] c (fun c4 => WI K (d + 1) mX9_ends 18 [(2, 108), (0, a1), (0, (a2 + 1))] [] c4 Q)) ∧ (¬ ((c 132 a2) = 3) → ir (c 132 a2) ∧ WI K (d + 1) mX9_ends 18 [(2, 108), (0, a1), (0, (a2 + 1))] [] c Q)) : WI K (d + 1) mX9_ends 79 [(2, 108), (0, a1), (0, a2)] [] c Q := by
  refine R_aload_n (pc' := 80) dX9_ends_79 rfl i108.1 rfl ?_
  refine Q_getfr (v := 132) (J := 46) (pc' := 83) rfl dX9_ends_80 l_RX9_150 i108 fd9_46.1 fd9_46.2.1 fd9_46.2.2.1 fd9_46.2.2.2 f108_46 rfl ?_
  refine R_iload_n (pc' := 84) dX9_ends_83 rfl rfl ?_
  have hs1 := h.1
  have h := h.2
  refine Q_iaload (N := 10) (pc' := 85) rfl dX9_ends_84 i132 (by decide) hs1 rfl ?_
  refine R_iconst (pc' := 86) dX9_ends_85 rfl ?_
  by_cases hc2 : (c 132 a2) = 3
  · have h := h.1 hc2
    refine R_neS_ic (tgt := 99) (pc' := 89) dX9_ends_86 (by decide) hc2 rfl ?_
    refine R_aload_n (pc' := 90) dX9_ends_89 rfl i108.1 rfl ?_
    refine R_aload_n (pc' := 91) dX9_ends_90 rfl i108.1 rfl ?_
    refine Q_getfr (v := 133) (J := 47) (pc' := 94) rfl dX9_ends_91 l_RX9_153 i108 fd9_47.1 fd9_47.2.1 fd9_47.2.2.1 fd9_47.2.2.2 f108_47 rfl ?_
    refine R_iload_n (pc' := 95) dX9_ends_94 rfl rfl ?_
    have hs3 := h.1
    have h := h.2
    refine Q_iaload (N := 10) (pc' := 96) rfl dX9_ends_95 i133 (by decide) hs3 rfl ?_
    refine Q_callVV (vs := [(0, (c 133 a2))]) (st := []) (pc' := 99) dX9_ends_96 l_RX9_278 i108 (by decide) rfl rfl (Nat.le_of_ble_eq_true rfl) rfl (Nat.zero_le _) (Nat.zero_le _) rfl ?_
    refine CV.mono h (fun c4 h => ?_)
    refine R_iinc (L' := [_, _, _]) (pc' := 102) dX9_ends_99 rfl (by decide) rfl rfl rfl ?_
    refine R_goto (tgt := 18) dX9_ends_102 (by decide) ?_
    exact WP_wk (wk_e (wk_e (wk_e wk_n))) h
  · have h := h.2 hc2
    refine R_neD_ic (tgt := 99) (pc' := 89) dX9_ends_86 (by decide) hc2 ⟨h.1, ir_l (by decide) (by decide)⟩ rfl ?_
    have h := h.2
    refine R_iinc (L' := [_, _, _]) (pc' := 102) dX9_ends_99 rfl (by decide) rfl rfl rfl ?_
    refine R_goto (tgt := 18) dX9_ends_102 (by decide) ?_
    exact WP_wk (wk_e (wk_e (wk_e wk_n))) h
theorem e_X9_ends {K : SK} {d : Nat} {c : ct} {Q : ct → Int → Prop} (a1 : Int) (h : WI K (d + 1) mX9_ends 0 [(2, 108), (0, a1), (9, 0)] [] c Q) : CI K (d + 1) mX9_ends [(2, 108), (0, a1)] c Q := CM_ofS (by decide) (Nat.le_of_ble_eq_true rfl) _ rfl h
set_option maxRecDepth 100000 in
theorem s_X9_book_0 {K : SK} {d : Nat} {c : ct} {Q : ct → Int → Prop} (a1 : Int) (a2 : Int) (h : (a1 = (-1) → ∀ c2 : ct, c2 = up2 c 108 45 0 → Q c2 0) ∧ (¬ (a1 = (-1)) → ir a1 ∧ CI K d mX9_isGuest [(2, 108), (0, a1)] c (fun c3 r4 => (r4 = 0 → Q c3 (-1)) ∧ (¬ (r4 = 0) → ir r4 ∧ CI K d mX9_isSeat [(2, 108), (0, a2)] c3 (fun c6 r7 => (r7 = 0 → Q c6 (-1)) ∧ (¬ (r7 = 0) → ir r7 ∧ ((c6 108 45) = 8 → Q c6 (-4)) ∧ (¬ ((c6 108 45) = 8) → ir (c6 108 45) ∧ ((0 ≤ (c6 108 45) ∧ (c6 108 45) < 8)) ∧ ∀ c10 : ct, c10 = up2 c6 134 (c6 108 45) a1 → ((0 ≤ (c10 108 45) ∧ (c10 108 45) < 8)) ∧ ∀ c12 : ct, c12 = up2 c10 135 (c10 108 45) a2 → ∀ c14 : ct, c14 = up2 c12 108 45 ((c12 108 45) + 1) → Q c14 (c14 108 45)))))))) : WI K (d + 1) mX9_book 0 [(2, 108), (0, a1), (0, a2)] [] c Q := by
  refine R_iload_n (pc' := 1) dX9_book_0 rfl rfl ?_
  refine R_iconst (pc' := 2) dX9_book_1 rfl ?_
  by_cases hc1 : a1 = (-1)
  · have h := h.1 hc1
    refine R_neS_ic (tgt := 12) (pc' := 5) dX9_book_2 (by decide) hc1 rfl ?_
    refine R_aload_n (pc' := 6) dX9_book_5 rfl i108.1 rfl ?_
    refine R_iconst (pc' := 7) dX9_book_6 rfl ?_
    refine Q_putfi (J := 45) (pc' := 10) rfl dX9_book_7 l_RX9_147 i108 fd9_45.1 fd9_45.2.1 fd9_45.2.2.2.1 fd9_45.2.2.2.2 rfl (fun c2 hc2 => ?_)
    have h := h c2 hc2
    refine R_iconst (pc' := 11) dX9_book_10 rfl ?_
    exact Q_iret dX9_book_11 rfl h
  · have h := h.2 hc1
    refine R_neD_ic (tgt := 12) (pc' := 5) dX9_book_2 (by decide) hc1 ⟨h.1, ir_l (by decide) (by decide)⟩ rfl ?_
    have h := h.2
    refine R_aload_n (pc' := 13) dX9_book_12 rfl i108.1 rfl ?_
    refine R_iload_n (pc' := 14) dX9_book_13 rfl rfl ?_
    refine Q_callVI (vs := [(0, a1)]) (st := []) (pc' := 17) dX9_book_14 l_RX9_260 i108 (by decide) rfl rfl (Nat.le_of_ble_eq_true rfl) rfl (Nat.zero_le _) (Nat.zero_le _) rfl ?_
    refine CI.mono h (fun c3 r4 h => ?_)
    by_cases hc5 : r4 = 0
    · have h := h.1 hc5
      refine R_eqS_if (tgt := 28) (pc' := 20) dX9_book_17 (by decide) hc5 rfl ?_
      refine R_iconst (pc' := 29) dX9_book_28 rfl ?_
      exact Q_iret dX9_book_29 rfl h
    · have h := h.2 hc5
      refine R_eqD_if (tgt := 28) (pc' := 20) dX9_book_17 (by decide) hc5 h.1 rfl ?_
      have h := h.2
      refine R_aload_n (pc' := 21) dX9_book_20 rfl i108.1 rfl ?_
      refine R_iload_n (pc' := 22) dX9_book_21 rfl rfl ?_
      refine Q_callVI (vs := [(0, a2)]) (st := []) (pc' := 25) dX9_book_22 l_RX9_268 i108 (by decide) rfl rfl (Nat.le_of_ble_eq_true rfl) rfl (Nat.zero_le _) (Nat.zero_le _) rfl ?_
      refine CI.mono h (fun c6 r7 h => ?_)
      by_cases hc8 : r7 = 0
      · have h := h.1 hc8
        refine R_neS_if (tgt := 30) (pc' := 28) dX9_book_25 (by decide) hc8 rfl ?_
        refine R_iconst (pc' := 29) dX9_book_28 rfl ?_
        exact Q_iret dX9_book_29 rfl h
      · have h := h.2 hc8
        refine R_neD_if (tgt := 30) (pc' := 28) dX9_book_25 (by decide) hc8 h.1 rfl ?_
        have h := h.2
        refine R_aload_n (pc' := 31) dX9_book_30 rfl i108.1 rfl ?_
        refine Q_getfi (J := 45) (pc' := 34) rfl dX9_book_31 l_RX9_147 i108 fd9_45.1 fd9_45.2.1 fd9_45.2.2.1 rfl ?_
        refine R_bipush (pc' := 36) dX9_book_34 (by decide) rfl ?_
        by_cases hc9 : (c6 108 45) = 8
        · have h := h.1 hc9
          refine R_neS_ic (tgt := 42) (pc' := 39) dX9_book_36 (by decide) hc9 rfl ?_
          refine R_bipush (pc' := 41) dX9_book_39 (by decide) rfl ?_
          exact Q_iret dX9_book_41 rfl h
        · have h := h.2 hc9
          refine R_neD_ic (tgt := 42) (pc' := 39) dX9_book_36 (by decide) hc9 ⟨h.1, ir_l (by decide) (by decide)⟩ rfl ?_
          have h := h.2
          refine R_aload_n (pc' := 43) dX9_book_42 rfl i108.1 rfl ?_
          refine Q_getfr (v := 134) (J := 48) (pc' := 46) rfl dX9_book_43 l_RX9_156 i108 fd9_48.1 fd9_48.2.1 fd9_48.2.2.1 fd9_48.2.2.2 f108_48 rfl ?_
          refine R_aload_n (pc' := 47) dX9_book_46 rfl i108.1 rfl ?_
          refine Q_getfi (J := 45) (pc' := 50) rfl dX9_book_47 l_RX9_147 i108 fd9_45.1 fd9_45.2.1 fd9_45.2.2.1 rfl ?_
          refine R_iload_n (pc' := 51) dX9_book_50 rfl rfl ?_
          have hs11 := h.1
          have h := h.2
          refine Q_iastore (N := 8) (pc' := 52) rfl dX9_book_51 i134 (by decide) hs11  rfl (fun c10 hc10 => ?_)
          have h := h c10 hc10
          refine R_aload_n (pc' := 53) dX9_book_52 rfl i108.1 rfl ?_
          refine Q_getfr (v := 135) (J := 49) (pc' := 56) rfl dX9_book_53 l_RX9_159 i108 fd9_49.1 fd9_49.2.1 fd9_49.2.2.1 fd9_49.2.2.2 f108_49 rfl ?_
          refine R_aload_n (pc' := 57) dX9_book_56 rfl i108.1 rfl ?_
          refine Q_getfi (J := 45) (pc' := 60) rfl dX9_book_57 l_RX9_147 i108 fd9_45.1 fd9_45.2.1 fd9_45.2.2.1 rfl ?_
          refine R_iload_n (pc' := 61) dX9_book_60 rfl rfl ?_
          have hs13 := h.1
          have h := h.2
          refine Q_iastore (N := 8) (pc' := 62) rfl dX9_book_61 i135 (by decide) hs13  rfl (fun c12 hc12 => ?_)
          have h := h c12 hc12
          refine R_aload_n (pc' := 63) dX9_book_62 rfl i108.1 rfl ?_
          refine R_dup (pc' := 64) dX9_book_63 (by simp) rfl ?_
          refine Q_getfi (J := 45) (pc' := 67) rfl dX9_book_64 l_RX9_147 i108 fd9_45.1 fd9_45.2.1 fd9_45.2.2.1 rfl ?_
          refine R_iconst (pc' := 68) dX9_book_67 rfl ?_
          refine R_iadd (pc' := 69) dX9_book_68 rfl ?_
          refine Q_putfi (J := 45) (pc' := 72) rfl dX9_book_69 l_RX9_147 i108 fd9_45.1 fd9_45.2.1 fd9_45.2.2.2.1 fd9_45.2.2.2.2 rfl (fun c14 hc14 => ?_)
          have h := h c14 hc14
          refine R_aload_n (pc' := 73) dX9_book_72 rfl i108.1 rfl ?_
          refine Q_getfi (J := 45) (pc' := 76) rfl dX9_book_73 l_RX9_147 i108 fd9_45.1 fd9_45.2.1 fd9_45.2.2.1 rfl ?_
          exact Q_iret dX9_book_76 rfl h
theorem e_X9_book {K : SK} {d : Nat} {c : ct} {Q : ct → Int → Prop} (a1 : Int) (a2 : Int) (h : WI K (d + 1) mX9_book 0 [(2, 108), (0, a1), (0, a2)] [] c Q) : CI K (d + 1) mX9_book [(2, 108), (0, a1), (0, a2)] c Q := CM_ofS (by decide) (Nat.le_of_ble_eq_true rfl) _ rfl h
set_option maxRecDepth 100000 in
theorem s_X9_looked_0 {K : SK} {d : Nat} {c : ct} {Q : ct → Int → Prop}  (h : WI K (d + 1) mX9_looked 2 [(2, 108), (0, 0)] [] c Q) : WI K (d + 1) mX9_looked 0 [(2, 108), (9, 0)] [] c Q := by
  refine R_iconst (pc' := 1) dX9_looked_0 rfl ?_
  refine R_istore_n (L' := [_, _]) (pc' := 2) dX9_looked_1 (by decide) rfl rfl rfl ?_
  exact WP_wk (wk_e (wk_e wk_n)) h
set_option maxRecDepth 100000 in
theorem s_X9_looked_2 {K : SK} {d : Nat} {c : ct} {Q : ct → Int → Prop} (a1 : Int) (h : (ir a1 ∧ ir (c 108 45)) ∧ ((c 108 45) ≤ a1 → Q c (-5)) ∧ (¬ ((c 108 45) ≤ a1) → ((0 ≤ a1 ∧ a1 < 8)) ∧ ((0 ≤ (c 134 a1) ∧ (c 134 a1) < 6)) ∧ ((0 ≤ a1 ∧ a1 < 8)) ∧ ((c 111 (c 134 a1)) = (c 135 a1) → WI K (d + 1) mX9_looked 2 [(2, 108), (0, (a1 + 1))] [] c Q) ∧ (¬ ((c 111 (c 134 a1)) = (c 135 a1)) → (ir (c 111 (c 134 a1)) ∧ ir (c 135 a1)) ∧ Q c a1))) : WI K (d + 1) mX9_looked 2 [(2, 108), (0, a1)] [] c Q := by
  refine R_iload_n (pc' := 3) dX9_looked_2 rfl rfl ?_
  refine R_aload_n (pc' := 4) dX9_looked_3 rfl i108.1 rfl ?_
  refine Q_getfi (J := 45) (pc' := 7) rfl dX9_looked_4 l_RX9_147 i108 fd9_45.1 fd9_45.2.1 fd9_45.2.2.1 rfl ?_
  have hs2 := h.1
  have h := h.2
  refine R_icmp_ge (tgt := 38) (pc' := 10) dX9_looked_7 (by decide) hs2.1 hs2.2 rfl (fun hc1 => ?_) (fun hc1 => ?_)
  · have h := h.1 hc1
    refine R_bipush (pc' := 40) dX9_looked_38 (by decide) rfl ?_
    exact Q_iret dX9_looked_40 rfl h
  · have h := h.2 hc1
    refine R_aload_n (pc' := 11) dX9_looked_10 rfl i108.1 rfl ?_
    refine Q_getfr (v := 111) (J := 7) (pc' := 14) rfl dX9_looked_11 l_RX9_32 i108 fd9_7.1 fd9_7.2.1 fd9_7.2.2.1 fd9_7.2.2.2 f108_7 rfl ?_
    refine R_aload_n (pc' := 15) dX9_looked_14 rfl i108.1 rfl ?_
    refine Q_getfr (v := 134) (J := 48) (pc' := 18) rfl dX9_looked_15 l_RX9_156 i108 fd9_48.1 fd9_48.2.1 fd9_48.2.2.1 fd9_48.2.2.2 f108_48 rfl ?_
    refine R_iload_n (pc' := 19) dX9_looked_18 rfl rfl ?_
    have hs3 := h.1
    have h := h.2
    refine Q_iaload (N := 8) (pc' := 20) rfl dX9_looked_19 i134 (by decide) hs3 rfl ?_
    have hs4 := h.1
    have h := h.2
    refine Q_iaload (N := 6) (pc' := 21) rfl dX9_looked_20 i111 (by decide) hs4 rfl ?_
    refine R_aload_n (pc' := 22) dX9_looked_21 rfl i108.1 rfl ?_
    refine Q_getfr (v := 135) (J := 49) (pc' := 25) rfl dX9_looked_22 l_RX9_159 i108 fd9_49.1 fd9_49.2.1 fd9_49.2.2.1 fd9_49.2.2.2 f108_49 rfl ?_
    refine R_iload_n (pc' := 26) dX9_looked_25 rfl rfl ?_
    have hs5 := h.1
    have h := h.2
    refine Q_iaload (N := 8) (pc' := 27) rfl dX9_looked_26 i135 (by decide) hs5 rfl ?_
    by_cases hc6 : (c 111 (c 134 a1)) = (c 135 a1)
    · have h := h.1 hc6
      refine R_eqS_ic (tgt := 32) (pc' := 30) dX9_looked_27 (by decide) hc6 rfl ?_
      refine R_iinc (L' := [_, _]) (pc' := 35) dX9_looked_32 rfl (by decide) rfl rfl rfl ?_
      refine R_goto (tgt := 2) dX9_looked_35 (by decide) ?_
      exact WP_wk (wk_e (wk_e wk_n)) h
    · have h := h.2 hc6
      refine R_eqD_ic (tgt := 32) (pc' := 30) dX9_looked_27 (by decide) hc6 h.1 rfl ?_
      have h := h.2
      refine R_iload_n (pc' := 31) dX9_looked_30 rfl rfl ?_
      exact Q_iret dX9_looked_31 rfl h
theorem e_X9_looked {K : SK} {d : Nat} {c : ct} {Q : ct → Int → Prop}  (h : WI K (d + 1) mX9_looked 0 [(2, 108), (9, 0)] [] c Q) : CI K (d + 1) mX9_looked [(2, 108)] c Q := CM_ofS (by decide) (Nat.le_of_ble_eq_true rfl) _ rfl h
set_option maxRecDepth 100000 in
theorem s_X9_judge_0 {K : SK} {d : Nat} {c : ct} {Q : ct → Int → Prop} (a1 : Int) (a2 : Int) (h : CI K d mX9_isTape [(2, 108), (0, a1)] c (fun c1 r2 => (r2 = 0 → Q c1 (-1)) ∧ (¬ (r2 = 0) → ir r2 ∧ ((0 ≤ a1 ∧ a1 < 6)) ∧ (ir (c1 149 a1)) ∧ ((c1 149 a1) ≤ 0 → WI K (d + 1) mX9_judge 24 [(2, 108), (0, a1), (0, a2), (0, 0)] [] c1 Q) ∧ (¬ ((c1 149 a1) ≤ 0) → Q c1 (-12))))) : WI K (d + 1) mX9_judge 0 [(2, 108), (0, a1), (0, a2), (9, 0)] [] c Q := by
  refine R_aload_n (pc' := 1) dX9_judge_0 rfl i108.1 rfl ?_
  refine R_iload_n (pc' := 2) dX9_judge_1 rfl rfl ?_
  refine Q_callVI (vs := [(0, a1)]) (st := []) (pc' := 5) dX9_judge_2 l_RX9_433 i108 (by decide) rfl rfl (Nat.le_of_ble_eq_true rfl) rfl (Nat.zero_le _) (Nat.zero_le _) rfl ?_
  refine CI.mono h (fun c1 r2 h => ?_)
  by_cases hc3 : r2 = 0
  · have h := h.1 hc3
    refine R_neS_if (tgt := 10) (pc' := 8) dX9_judge_5 (by decide) hc3 rfl ?_
    refine R_iconst (pc' := 9) dX9_judge_8 rfl ?_
    exact Q_iret dX9_judge_9 rfl h
  · have h := h.2 hc3
    refine R_neD_if (tgt := 10) (pc' := 8) dX9_judge_5 (by decide) hc3 h.1 rfl ?_
    have h := h.2
    refine R_aload_n (pc' := 11) dX9_judge_10 rfl i108.1 rfl ?_
    refine Q_getfr (v := 149) (J := 74) (pc' := 14) rfl dX9_judge_11 l_RX9_235 i108 fd9_74.1 fd9_74.2.1 fd9_74.2.2.1 fd9_74.2.2.2 f108_74 rfl ?_
    refine R_iload_n (pc' := 15) dX9_judge_14 rfl rfl ?_
    have hs4 := h.1
    have h := h.2
    refine Q_iaload (N := 6) (pc' := 16) rfl dX9_judge_15 i149 (by decide) hs4 rfl ?_
    have hs6 := h.1
    have h := h.2
    refine R_if_le (tgt := 22) (pc' := 19) dX9_judge_16 (by decide) hs6  rfl (fun hc5 => ?_) (fun hc5 => ?_)
    · have h := h.1 hc5
      refine R_iconst (pc' := 23) dX9_judge_22 rfl ?_
      refine R_istore_n (L' := [_, _, _, _]) (pc' := 24) dX9_judge_23 (by decide) rfl rfl rfl ?_
      exact WP_wk (wk_e (wk_e (wk_e (wk_e wk_n)))) h
    · have h := h.2 hc5
      refine R_bipush (pc' := 21) dX9_judge_19 (by decide) rfl ?_
      exact Q_iret dX9_judge_21 rfl h
set_option maxRecDepth 100000 in
theorem s_X9_judge_24 {K : SK} {d : Nat} {c : ct} {Q : ct → Int → Prop} (a1 : Int) (a2 : Int) (a3 : Int) (h : (ir a3 ∧ ir (c 108 0)) ∧ ((c 108 0) ≤ a3 → Q c (-5)) ∧ (¬ ((c 108 0) ≤ a3) → ((0 ≤ a1 ∧ a1 < 6)) ∧ (ir (c 149 a1)) ∧ ((c 149 a1) < 0 → Q c (100 + a3)) ∧ (¬ ((c 149 a1) < 0) → (ir a2) ∧ (a2 < 0 → Q c (100 + a3)) ∧ (¬ (a2 < 0) → ((0 ≤ a1 ∧ a1 < 6)) ∧ (ir a2 ∧ ir (((c 150 a1) - a3) - 1)) ∧ (a2 ≤ (((c 150 a1) - a3) - 1) → ((0 ≤ (((60 * a1) + a2) + a3) ∧ (((60 * a1) + a2) + a3) < 360)) ∧ ((0 ≤ a3 ∧ a3 < 6)) ∧ (ir (c 111 a3)) ∧ ((c 151 (((60 * a1) + a2) + a3)) = (c 111 a3) → WI K (d + 1) mX9_judge 24 [(2, 108), (0, a1), (0, a2), (0, (a3 + 1))] [] c Q) ∧ (¬ ((c 151 (((60 * a1) + a2) + a3)) = (c 111 a3)) → (il (c 151 (((60 * a1) + a2) + a3)) ∧ il (c 111 a3)) ∧ ∀ z14 : Int, z14 = (if (c 111 a3) < (c 151 (((60 * a1) + a2) + a3)) then 1 else -1) → (z14 = 0 → WI K (d + 1) mX9_judge 24 [(2, 108), (0, a1), (0, a2), (0, (a3 + 1))] [] c Q) ∧ (¬ (z14 = 0) → ir z14 ∧ Q c a3))) ∧ (¬ (a2 ≤ (((c 150 a1) - a3) - 1)) → Q c (100 + a3)))))) : WI K (d + 1) mX9_judge 24 [(2, 108), (0, a1), (0, a2), (0, a3)] [] c Q := by
  refine R_iload_n (pc' := 25) dX9_judge_24 rfl rfl ?_
  refine R_aload_n (pc' := 26) dX9_judge_25 rfl i108.1 rfl ?_
  refine Q_getfi (J := 0) (pc' := 29) rfl dX9_judge_26 l_RX9_7 i108 fd9_0.1 fd9_0.2.1 fd9_0.2.2.1 rfl ?_
  have hs2 := h.1
  have h := h.2
  refine R_icmp_ge (tgt := 96) (pc' := 32) dX9_judge_29 (by decide) hs2.1 hs2.2 rfl (fun hc1 => ?_) (fun hc1 => ?_)
  · have h := h.1 hc1
    refine R_bipush (pc' := 98) dX9_judge_96 (by decide) rfl ?_
    exact Q_iret dX9_judge_98 rfl h
  · have h := h.2 hc1
    refine R_aload_n (pc' := 33) dX9_judge_32 rfl i108.1 rfl ?_
    refine Q_getfr (v := 149) (J := 74) (pc' := 36) rfl dX9_judge_33 l_RX9_235 i108 fd9_74.1 fd9_74.2.1 fd9_74.2.2.1 fd9_74.2.2.2 f108_74 rfl ?_
    refine R_iload_n (pc' := 37) dX9_judge_36 rfl rfl ?_
    have hs3 := h.1
    have h := h.2
    refine Q_iaload (N := 6) (pc' := 38) rfl dX9_judge_37 i149 (by decide) hs3 rfl ?_
    have hs5 := h.1
    have h := h.2
    refine R_if_lt (tgt := 59) (pc' := 41) dX9_judge_38 (by decide) hs5  rfl (fun hc4 => ?_) (fun hc4 => ?_)
    · have h := h.1 hc4
      refine R_bipush (pc' := 61) dX9_judge_59 (by decide) rfl ?_
      refine R_iload_n (pc' := 62) dX9_judge_61 rfl rfl ?_
      refine R_iadd (pc' := 63) dX9_judge_62 rfl ?_
      exact Q_iret dX9_judge_63 rfl h
    · have h := h.2 hc4
      refine R_iload_n (pc' := 42) dX9_judge_41 rfl rfl ?_
      have hs7 := h.1
      have h := h.2
      refine R_if_lt (tgt := 59) (pc' := 45) dX9_judge_42 (by decide) hs7  rfl (fun hc6 => ?_) (fun hc6 => ?_)
      · have h := h.1 hc6
        refine R_bipush (pc' := 61) dX9_judge_59 (by decide) rfl ?_
        refine R_iload_n (pc' := 62) dX9_judge_61 rfl rfl ?_
        refine R_iadd (pc' := 63) dX9_judge_62 rfl ?_
        exact Q_iret dX9_judge_63 rfl h
      · have h := h.2 hc6
        refine R_iload_n (pc' := 46) dX9_judge_45 rfl rfl ?_
        refine R_aload_n (pc' := 47) dX9_judge_46 rfl i108.1 rfl ?_
        refine Q_getfr (v := 150) (J := 75) (pc' := 50) rfl dX9_judge_47 l_RX9_238 i108 fd9_75.1 fd9_75.2.1 fd9_75.2.2.1 fd9_75.2.2.2 f108_75 rfl ?_
        refine R_iload_n (pc' := 51) dX9_judge_50 rfl rfl ?_
        have hs8 := h.1
        have h := h.2
        refine Q_iaload (N := 6) (pc' := 52) rfl dX9_judge_51 i150 (by decide) hs8 rfl ?_
        refine R_iload_n (pc' := 53) dX9_judge_52 rfl rfl ?_
        refine R_isub (pc' := 54) dX9_judge_53 rfl ?_
        refine R_iconst (pc' := 55) dX9_judge_54 rfl ?_
        refine R_isub (pc' := 56) dX9_judge_55 rfl ?_
        have hs10 := h.1
        have h := h.2
        refine R_icmp_le (tgt := 64) (pc' := 59) dX9_judge_56 (by decide) hs10.1 hs10.2 rfl (fun hc9 => ?_) (fun hc9 => ?_)
        · have h := h.1 hc9
          refine R_aload_n (pc' := 65) dX9_judge_64 rfl i108.1 rfl ?_
          refine Q_getfr (v := 151) (J := 76) (pc' := 68) rfl dX9_judge_65 l_RX9_241 i108 fd9_76.1 fd9_76.2.1 fd9_76.2.2.1 fd9_76.2.2.2 f108_76 rfl ?_
          refine R_bipush (pc' := 70) dX9_judge_68 (by decide) rfl ?_
          refine R_iload_n (pc' := 71) dX9_judge_70 rfl rfl ?_
          refine R_imul (pc' := 72) dX9_judge_71 rfl ?_
          refine R_iload_n (pc' := 73) dX9_judge_72 rfl rfl ?_
          refine R_iadd (pc' := 74) dX9_judge_73 rfl ?_
          refine R_iload_n (pc' := 75) dX9_judge_74 rfl rfl ?_
          refine R_iadd (pc' := 76) dX9_judge_75 rfl ?_
          have hs11 := h.1
          have h := h.2
          refine Q_laload (N := 360) (pc' := 77) rfl dX9_judge_76 i151 (by decide) hs11 rfl ?_
          refine R_aload_n (pc' := 78) dX9_judge_77 rfl i108.1 rfl ?_
          refine Q_getfr (v := 111) (J := 7) (pc' := 81) rfl dX9_judge_78 l_RX9_32 i108 fd9_7.1 fd9_7.2.1 fd9_7.2.2.1 fd9_7.2.2.2 f108_7 rfl ?_
          refine R_iload_n (pc' := 82) dX9_judge_81 rfl rfl ?_
          have hs12 := h.1
          have h := h.2
          refine Q_iaload (N := 6) (pc' := 83) rfl dX9_judge_82 i111 (by decide) hs12 rfl ?_
          have hs13 := h.1
          have h := h.2
          refine R_i2l (pc' := 84) dX9_judge_83 hs13 rfl ?_
          by_cases hq16 : (c 151 (((60 * a1) + a2) + a3)) = (c 111 a3)
          · have h := h.1 hq16
            refine R_lcmp_eq (pc' := 85) dX9_judge_84 hq16 rfl ?_
            refine R_eqS_if (tgt := 90) (pc' := 88) dX9_judge_85 (by decide) rfl rfl ?_
            refine R_iinc (L' := [_, _, _, _]) (pc' := 93) dX9_judge_90 rfl (by decide) rfl rfl rfl ?_
            refine R_goto (tgt := 24) dX9_judge_93 (by decide) ?_
            exact WP_wk (wk_e (wk_e (wk_e (wk_e wk_n)))) h
          · have h := h.2 hq16
            refine R_lcmp_ne (pc' := 85) dX9_judge_84 h.1.1 h.1.2 hq16 rfl rfl ?_
            have h := h.2 _ rfl
            generalize (if (c 111 a3) < (c 151 (((60 * a1) + a2) + a3)) then (1 : Int) else -1) = z14 at h ⊢
            by_cases hc15 : z14 = 0
            · have h := h.1 hc15
              refine R_eqS_if (tgt := 90) (pc' := 88) dX9_judge_85 (by decide) hc15 rfl ?_
              refine R_iinc (L' := [_, _, _, _]) (pc' := 93) dX9_judge_90 rfl (by decide) rfl rfl rfl ?_
              refine R_goto (tgt := 24) dX9_judge_93 (by decide) ?_
              exact WP_wk (wk_e (wk_e (wk_e (wk_e wk_n)))) h
            · have h := h.2 hc15
              refine R_eqD_if (tgt := 90) (pc' := 88) dX9_judge_85 (by decide) hc15 h.1 rfl ?_
              have h := h.2
              refine R_iload_n (pc' := 89) dX9_judge_88 rfl rfl ?_
              exact Q_iret dX9_judge_89 rfl h
        · have h := h.2 hc9
          refine R_bipush (pc' := 61) dX9_judge_59 (by decide) rfl ?_
          refine R_iload_n (pc' := 62) dX9_judge_61 rfl rfl ?_
          refine R_iadd (pc' := 63) dX9_judge_62 rfl ?_
          exact Q_iret dX9_judge_63 rfl h
theorem e_X9_judge {K : SK} {d : Nat} {c : ct} {Q : ct → Int → Prop} (a1 : Int) (a2 : Int) (h : WI K (d + 1) mX9_judge 0 [(2, 108), (0, a1), (0, a2), (9, 0)] [] c Q) : CI K (d + 1) mX9_judge [(2, 108), (0, a1), (0, a2)] c Q := CM_ofS (by decide) (Nat.le_of_ble_eq_true rfl) _ rfl h
set_option maxRecDepth 100000 in
theorem s_X9_image_0 {K : SK} {d : Nat} {c : ct} {Q : ct → Int → Prop}  (h : ∀ c1 : ct, c1 = up2 c 108 50 1 → ∀ c2 : ct, c2 = up2 c1 108 51 (c1 108 11) → ∀ c3 : ct, c3 = up2 c2 108 52 (c2 108 0) → ∀ c4 : ct, c4 = up2 c3 108 53 (c3 108 1) → ∀ c5 : ct, c5 = up2 c4 108 54 (c4 108 2) → ∀ c6 : ct, c6 = up2 c5 108 55 (c5 108 3) → ∀ c7 : ct, c7 = up2 c6 108 56 (c6 108 4) → ∀ c8 : ct, c8 = up2 c7 108 57 (c7 108 39) → ∀ c9 : ct, c9 = up2 c8 108 58 (c8 108 44) → ∀ c10 : ct, c10 = up2 c9 108 59 (c9 108 45) → WI K (d + 1) mX9_image 79 [(2, 108), (0, 0)] [] c10 Q) : WI K (d + 1) mX9_image 0 [(2, 108), (9, 0)] [] c Q := by
  refine R_aload_n (pc' := 1) dX9_image_0 rfl i108.1 rfl ?_
  refine R_iconst (pc' := 2) dX9_image_1 rfl ?_
  refine Q_putfz (J := 50) (pc' := 5) rfl dX9_image_2 l_RX9_162 i108 fd9_50.1 fd9_50.2.1 fd9_50.2.2.2.1 fd9_50.2.2.2.2 (Or.inr rfl) rfl (fun c1 hc1 => ?_)
  have h := h c1 hc1
  refine R_aload_n (pc' := 6) dX9_image_5 rfl i108.1 rfl ?_
  refine R_aload_n (pc' := 7) dX9_image_6 rfl i108.1 rfl ?_
  refine Q_getfi (J := 11) (pc' := 10) rfl dX9_image_7 l_RX9_44 i108 fd9_11.1 fd9_11.2.1 fd9_11.2.2.1 rfl ?_
  refine Q_putfi (J := 51) (pc' := 13) rfl dX9_image_10 l_RX9_166 i108 fd9_51.1 fd9_51.2.1 fd9_51.2.2.2.1 fd9_51.2.2.2.2 rfl (fun c2 hc2 => ?_)
  have h := h c2 hc2
  refine R_aload_n (pc' := 14) dX9_image_13 rfl i108.1 rfl ?_
  refine R_aload_n (pc' := 15) dX9_image_14 rfl i108.1 rfl ?_
  refine Q_getfi (J := 0) (pc' := 18) rfl dX9_image_15 l_RX9_7 i108 fd9_0.1 fd9_0.2.1 fd9_0.2.2.1 rfl ?_
  refine Q_putfi (J := 52) (pc' := 21) rfl dX9_image_18 l_RX9_169 i108 fd9_52.1 fd9_52.2.1 fd9_52.2.2.2.1 fd9_52.2.2.2.2 rfl (fun c3 hc3 => ?_)
  have h := h c3 hc3
  refine R_aload_n (pc' := 22) dX9_image_21 rfl i108.1 rfl ?_
  refine R_aload_n (pc' := 23) dX9_image_22 rfl i108.1 rfl ?_
  refine Q_getfi (J := 1) (pc' := 26) rfl dX9_image_23 l_RX9_13 i108 fd9_1.1 fd9_1.2.1 fd9_1.2.2.1 rfl ?_
  refine Q_putfi (J := 53) (pc' := 29) rfl dX9_image_26 l_RX9_172 i108 fd9_53.1 fd9_53.2.1 fd9_53.2.2.2.1 fd9_53.2.2.2.2 rfl (fun c4 hc4 => ?_)
  have h := h c4 hc4
  refine R_aload_n (pc' := 30) dX9_image_29 rfl i108.1 rfl ?_
  refine R_aload_n (pc' := 31) dX9_image_30 rfl i108.1 rfl ?_
  refine Q_getfi (J := 2) (pc' := 34) rfl dX9_image_31 l_RX9_16 i108 fd9_2.1 fd9_2.2.1 fd9_2.2.2.1 rfl ?_
  refine Q_putfi (J := 54) (pc' := 37) rfl dX9_image_34 l_RX9_175 i108 fd9_54.1 fd9_54.2.1 fd9_54.2.2.2.1 fd9_54.2.2.2.2 rfl (fun c5 hc5 => ?_)
  have h := h c5 hc5
  refine R_aload_n (pc' := 38) dX9_image_37 rfl i108.1 rfl ?_
  refine R_aload_n (pc' := 39) dX9_image_38 rfl i108.1 rfl ?_
  refine Q_getfi (J := 3) (pc' := 42) rfl dX9_image_39 l_RX9_19 i108 fd9_3.1 fd9_3.2.1 fd9_3.2.2.1 rfl ?_
  refine Q_putfi (J := 55) (pc' := 45) rfl dX9_image_42 l_RX9_178 i108 fd9_55.1 fd9_55.2.1 fd9_55.2.2.2.1 fd9_55.2.2.2.2 rfl (fun c6 hc6 => ?_)
  have h := h c6 hc6
  refine R_aload_n (pc' := 46) dX9_image_45 rfl i108.1 rfl ?_
  refine R_aload_n (pc' := 47) dX9_image_46 rfl i108.1 rfl ?_
  refine Q_getfi (J := 4) (pc' := 50) rfl dX9_image_47 l_RX9_22 i108 fd9_4.1 fd9_4.2.1 fd9_4.2.2.1 rfl ?_
  refine Q_putfi (J := 56) (pc' := 53) rfl dX9_image_50 l_RX9_181 i108 fd9_56.1 fd9_56.2.1 fd9_56.2.2.2.1 fd9_56.2.2.2.2 rfl (fun c7 hc7 => ?_)
  have h := h c7 hc7
  refine R_aload_n (pc' := 54) dX9_image_53 rfl i108.1 rfl ?_
  refine R_aload_n (pc' := 55) dX9_image_54 rfl i108.1 rfl ?_
  refine Q_getfi (J := 39) (pc' := 58) rfl dX9_image_55 l_RX9_129 i108 fd9_39.1 fd9_39.2.1 fd9_39.2.2.1 rfl ?_
  refine Q_putfi (J := 57) (pc' := 61) rfl dX9_image_58 l_RX9_184 i108 fd9_57.1 fd9_57.2.1 fd9_57.2.2.2.1 fd9_57.2.2.2.2 rfl (fun c8 hc8 => ?_)
  have h := h c8 hc8
  refine R_aload_n (pc' := 62) dX9_image_61 rfl i108.1 rfl ?_
  refine R_aload_n (pc' := 63) dX9_image_62 rfl i108.1 rfl ?_
  refine Q_getfi (J := 44) (pc' := 66) rfl dX9_image_63 l_RX9_144 i108 fd9_44.1 fd9_44.2.1 fd9_44.2.2.1 rfl ?_
  refine Q_putfi (J := 58) (pc' := 69) rfl dX9_image_66 l_RX9_187 i108 fd9_58.1 fd9_58.2.1 fd9_58.2.2.2.1 fd9_58.2.2.2.2 rfl (fun c9 hc9 => ?_)
  have h := h c9 hc9
  refine R_aload_n (pc' := 70) dX9_image_69 rfl i108.1 rfl ?_
  refine R_aload_n (pc' := 71) dX9_image_70 rfl i108.1 rfl ?_
  refine Q_getfi (J := 45) (pc' := 74) rfl dX9_image_71 l_RX9_147 i108 fd9_45.1 fd9_45.2.1 fd9_45.2.2.1 rfl ?_
  refine Q_putfi (J := 59) (pc' := 77) rfl dX9_image_74 l_RX9_190 i108 fd9_59.1 fd9_59.2.1 fd9_59.2.2.2.1 fd9_59.2.2.2.2 rfl (fun c10 hc10 => ?_)
  have h := h c10 hc10
  refine R_iconst (pc' := 78) dX9_image_77 rfl ?_
  refine R_istore_n (L' := [_, _]) (pc' := 79) dX9_image_78 (by decide) rfl rfl rfl ?_
  exact WP_wk (wk_e (wk_e wk_n)) h
set_option maxRecDepth 100000 in
theorem s_X9_image_79 {K : SK} {d : Nat} {c : ct} {Q : ct → Int → Prop} (a1 : Int) (h : (ir a1) ∧ (6 ≤ a1 → WI K (d + 1) mX9_image 141 [(2, 108), (0, 0)] [] c Q) ∧ (¬ (6 ≤ a1) → ((0 ≤ a1 ∧ a1 < 6)) ∧ ((0 ≤ a1 ∧ a1 < 6)) ∧ ∀ c4 : ct, c4 = up2 c 136 a1 (c 109 a1) → ((0 ≤ a1 ∧ a1 < 6)) ∧ ((0 ≤ a1 ∧ a1 < 6)) ∧ ∀ c7 : ct, c7 = up2 c4 137 a1 (c4 110 a1) → ((0 ≤ a1 ∧ a1 < 6)) ∧ ((0 ≤ a1 ∧ a1 < 6)) ∧ ∀ c10 : ct, c10 = up2 c7 138 a1 (c7 111 a1) → ((0 ≤ a1 ∧ a1 < 6)) ∧ ((0 ≤ a1 ∧ a1 < 6)) ∧ ∀ c13 : ct, c13 = up2 c10 139 a1 (c10 112 a1) → WI K (d + 1) mX9_image 79 [(2, 108), (0, (a1 + 1))] [] c13 Q)) : WI K (d + 1) mX9_image 79 [(2, 108), (0, a1)] [] c Q := by
  refine R_iload_n (pc' := 80) dX9_image_79 rfl rfl ?_
  refine R_bipush (pc' := 82) dX9_image_80 (by decide) rfl ?_
  have hs2 := h.1
  have h := h.2
  refine R_icmp_ge (tgt := 139) (pc' := 85) dX9_image_82 (by decide) hs2 (ir_l (by decide) (by decide)) rfl (fun hc1 => ?_) (fun hc1 => ?_)
  · have h := h.1 hc1
    refine R_iconst (pc' := 140) dX9_image_139 rfl ?_
    refine R_istore_n (L' := [_, _]) (pc' := 141) dX9_image_140 (by decide) rfl rfl rfl ?_
    exact WP_wk (wk_e (wk_e wk_n)) h
  · have h := h.2 hc1
    refine R_aload_n (pc' := 86) dX9_image_85 rfl i108.1 rfl ?_
    refine Q_getfr (v := 136) (J := 60) (pc' := 89) rfl dX9_image_86 l_RX9_193 i108 fd9_60.1 fd9_60.2.1 fd9_60.2.2.1 fd9_60.2.2.2 f108_60 rfl ?_
    refine R_iload_n (pc' := 90) dX9_image_89 rfl rfl ?_
    refine R_aload_n (pc' := 91) dX9_image_90 rfl i108.1 rfl ?_
    refine Q_getfr (v := 109) (J := 5) (pc' := 94) rfl dX9_image_91 l_RX9_25 i108 fd9_5.1 fd9_5.2.1 fd9_5.2.2.1 fd9_5.2.2.2 f108_5 rfl ?_
    refine R_iload_n (pc' := 95) dX9_image_94 rfl rfl ?_
    have hs3 := h.1
    have h := h.2
    refine Q_iaload (N := 6) (pc' := 96) rfl dX9_image_95 i109 (by decide) hs3 rfl ?_
    have hs5 := h.1
    have h := h.2
    refine Q_iastore (N := 6) (pc' := 97) rfl dX9_image_96 i136 (by decide) hs5  rfl (fun c4 hc4 => ?_)
    have h := h c4 hc4
    refine R_aload_n (pc' := 98) dX9_image_97 rfl i108.1 rfl ?_
    refine Q_getfr (v := 137) (J := 61) (pc' := 101) rfl dX9_image_98 l_RX9_196 i108 fd9_61.1 fd9_61.2.1 fd9_61.2.2.1 fd9_61.2.2.2 f108_61 rfl ?_
    refine R_iload_n (pc' := 102) dX9_image_101 rfl rfl ?_
    refine R_aload_n (pc' := 103) dX9_image_102 rfl i108.1 rfl ?_
    refine Q_getfr (v := 110) (J := 6) (pc' := 106) rfl dX9_image_103 l_RX9_29 i108 fd9_6.1 fd9_6.2.1 fd9_6.2.2.1 fd9_6.2.2.2 f108_6 rfl ?_
    refine R_iload_n (pc' := 107) dX9_image_106 rfl rfl ?_
    have hs6 := h.1
    have h := h.2
    refine Q_iaload (N := 6) (pc' := 108) rfl dX9_image_107 i110 (by decide) hs6 rfl ?_
    have hs8 := h.1
    have h := h.2
    refine Q_iastore (N := 6) (pc' := 109) rfl dX9_image_108 i137 (by decide) hs8  rfl (fun c7 hc7 => ?_)
    have h := h c7 hc7
    refine R_aload_n (pc' := 110) dX9_image_109 rfl i108.1 rfl ?_
    refine Q_getfr (v := 138) (J := 62) (pc' := 113) rfl dX9_image_110 l_RX9_199 i108 fd9_62.1 fd9_62.2.1 fd9_62.2.2.1 fd9_62.2.2.2 f108_62 rfl ?_
    refine R_iload_n (pc' := 114) dX9_image_113 rfl rfl ?_
    refine R_aload_n (pc' := 115) dX9_image_114 rfl i108.1 rfl ?_
    refine Q_getfr (v := 111) (J := 7) (pc' := 118) rfl dX9_image_115 l_RX9_32 i108 fd9_7.1 fd9_7.2.1 fd9_7.2.2.1 fd9_7.2.2.2 f108_7 rfl ?_
    refine R_iload_n (pc' := 119) dX9_image_118 rfl rfl ?_
    have hs9 := h.1
    have h := h.2
    refine Q_iaload (N := 6) (pc' := 120) rfl dX9_image_119 i111 (by decide) hs9 rfl ?_
    have hs11 := h.1
    have h := h.2
    refine Q_iastore (N := 6) (pc' := 121) rfl dX9_image_120 i138 (by decide) hs11  rfl (fun c10 hc10 => ?_)
    have h := h c10 hc10
    refine R_aload_n (pc' := 122) dX9_image_121 rfl i108.1 rfl ?_
    refine Q_getfr (v := 139) (J := 63) (pc' := 125) rfl dX9_image_122 l_RX9_202 i108 fd9_63.1 fd9_63.2.1 fd9_63.2.2.1 fd9_63.2.2.2 f108_63 rfl ?_
    refine R_iload_n (pc' := 126) dX9_image_125 rfl rfl ?_
    refine R_aload_n (pc' := 127) dX9_image_126 rfl i108.1 rfl ?_
    refine Q_getfr (v := 112) (J := 8) (pc' := 130) rfl dX9_image_127 l_RX9_35 i108 fd9_8.1 fd9_8.2.1 fd9_8.2.2.1 fd9_8.2.2.2 f108_8 rfl ?_
    refine R_iload_n (pc' := 131) dX9_image_130 rfl rfl ?_
    have hs12 := h.1
    have h := h.2
    refine Q_iaload (N := 6) (pc' := 132) rfl dX9_image_131 i112 (by decide) hs12 rfl ?_
    have hs14 := h.1
    have h := h.2
    refine Q_iastore (N := 6) (pc' := 133) rfl dX9_image_132 i139 (by decide) hs14  rfl (fun c13 hc13 => ?_)
    have h := h c13 hc13
    refine R_iinc (L' := [_, _]) (pc' := 136) dX9_image_133 rfl (by decide) rfl rfl rfl ?_
    refine R_goto (tgt := 79) dX9_image_136 (by decide) ?_
    exact WP_wk (wk_e (wk_e wk_n)) h
set_option maxRecDepth 100000 in
theorem s_X9_image_141 {K : SK} {d : Nat} {c : ct} {Q : ct → Int → Prop} (a1 : Int) (h : (ir a1) ∧ (24 ≤ a1 → WI K (d + 1) mX9_image 167 [(2, 108), (0, 0)] [] c Q) ∧ (¬ (24 ≤ a1) → ((0 ≤ a1 ∧ a1 < 24)) ∧ ((0 ≤ a1 ∧ a1 < 24)) ∧ ∀ c4 : ct, c4 = up2 c 140 a1 (c 113 a1) → WI K (d + 1) mX9_image 141 [(2, 108), (0, (a1 + 1))] [] c4 Q)) : WI K (d + 1) mX9_image 141 [(2, 108), (0, a1)] [] c Q := by
  refine R_iload_n (pc' := 142) dX9_image_141 rfl rfl ?_
  refine R_bipush (pc' := 144) dX9_image_142 (by decide) rfl ?_
  have hs2 := h.1
  have h := h.2
  refine R_icmp_ge (tgt := 165) (pc' := 147) dX9_image_144 (by decide) hs2 (ir_l (by decide) (by decide)) rfl (fun hc1 => ?_) (fun hc1 => ?_)
  · have h := h.1 hc1
    refine R_iconst (pc' := 166) dX9_image_165 rfl ?_
    refine R_istore_n (L' := [_, _]) (pc' := 167) dX9_image_166 (by decide) rfl rfl rfl ?_
    exact WP_wk (wk_e (wk_e wk_n)) h
  · have h := h.2 hc1
    refine R_aload_n (pc' := 148) dX9_image_147 rfl i108.1 rfl ?_
    refine Q_getfr (v := 140) (J := 64) (pc' := 151) rfl dX9_image_148 l_RX9_205 i108 fd9_64.1 fd9_64.2.1 fd9_64.2.2.1 fd9_64.2.2.2 f108_64 rfl ?_
    refine R_iload_n (pc' := 152) dX9_image_151 rfl rfl ?_
    refine R_aload_n (pc' := 153) dX9_image_152 rfl i108.1 rfl ?_
    refine Q_getfr (v := 113) (J := 9) (pc' := 156) rfl dX9_image_153 l_RX9_38 i108 fd9_9.1 fd9_9.2.1 fd9_9.2.2.1 fd9_9.2.2.2 f108_9 rfl ?_
    refine R_iload_n (pc' := 157) dX9_image_156 rfl rfl ?_
    have hs3 := h.1
    have h := h.2
    refine Q_iaload (N := 24) (pc' := 158) rfl dX9_image_157 i113 (by decide) hs3 rfl ?_
    have hs5 := h.1
    have h := h.2
    refine Q_iastore (N := 24) (pc' := 159) rfl dX9_image_158 i140 (by decide) hs5  rfl (fun c4 hc4 => ?_)
    have h := h c4 hc4
    refine R_iinc (L' := [_, _]) (pc' := 162) dX9_image_159 rfl (by decide) rfl rfl rfl ?_
    refine R_goto (tgt := 141) dX9_image_162 (by decide) ?_
    exact WP_wk (wk_e (wk_e wk_n)) h
set_option maxRecDepth 100000 in
theorem s_X9_image_167 {K : SK} {d : Nat} {c : ct} {Q : ct → Int → Prop} (a1 : Int) (h : (ir a1) ∧ (5 ≤ a1 → WI K (d + 1) mX9_image 216 [(2, 108), (0, 0)] [] c Q) ∧ (¬ (5 ≤ a1) → ((0 ≤ a1 ∧ a1 < 5)) ∧ ((0 ≤ a1 ∧ a1 < 5)) ∧ ∀ c4 : ct, c4 = up2 c 141 a1 (c 128 a1) → ((0 ≤ a1 ∧ a1 < 5)) ∧ ((0 ≤ a1 ∧ a1 < 5) ∧ ((c4 130 a1) = 0 ∨ (c4 130 a1) = 1)) ∧ ∀ c7 : ct, c7 = up2 c4 147 a1 (c4 130 a1) → ((0 ≤ a1 ∧ a1 < 5)) ∧ ((0 ≤ a1 ∧ a1 < 5)) ∧ ∀ c10 : ct, c10 = up2 c7 142 a1 (c7 129 a1) → WI K (d + 1) mX9_image 167 [(2, 108), (0, (a1 + 1))] [] c10 Q)) : WI K (d + 1) mX9_image 167 [(2, 108), (0, a1)] [] c Q := by
  refine R_iload_n (pc' := 168) dX9_image_167 rfl rfl ?_
  refine R_iconst (pc' := 169) dX9_image_168 rfl ?_
  have hs2 := h.1
  have h := h.2
  refine R_icmp_ge (tgt := 214) (pc' := 172) dX9_image_169 (by decide) hs2 (ir_l (by decide) (by decide)) rfl (fun hc1 => ?_) (fun hc1 => ?_)
  · have h := h.1 hc1
    refine R_iconst (pc' := 215) dX9_image_214 rfl ?_
    refine R_istore_n (L' := [_, _]) (pc' := 216) dX9_image_215 (by decide) rfl rfl rfl ?_
    exact WP_wk (wk_e (wk_e wk_n)) h
  · have h := h.2 hc1
    refine R_aload_n (pc' := 173) dX9_image_172 rfl i108.1 rfl ?_
    refine Q_getfr (v := 141) (J := 65) (pc' := 176) rfl dX9_image_173 l_RX9_208 i108 fd9_65.1 fd9_65.2.1 fd9_65.2.2.1 fd9_65.2.2.2 f108_65 rfl ?_
    refine R_iload_n (pc' := 177) dX9_image_176 rfl rfl ?_
    refine R_aload_n (pc' := 178) dX9_image_177 rfl i108.1 rfl ?_
    refine Q_getfr (v := 128) (J := 40) (pc' := 181) rfl dX9_image_178 l_RX9_132 i108 fd9_40.1 fd9_40.2.1 fd9_40.2.2.1 fd9_40.2.2.2 f108_40 rfl ?_
    refine R_iload_n (pc' := 182) dX9_image_181 rfl rfl ?_
    have hs3 := h.1
    have h := h.2
    refine Q_iaload (N := 5) (pc' := 183) rfl dX9_image_182 i128 (by decide) hs3 rfl ?_
    have hs5 := h.1
    have h := h.2
    refine Q_iastore (N := 5) (pc' := 184) rfl dX9_image_183 i141 (by decide) hs5  rfl (fun c4 hc4 => ?_)
    have h := h c4 hc4
    refine R_aload_n (pc' := 185) dX9_image_184 rfl i108.1 rfl ?_
    refine Q_getfr (v := 147) (J := 71) (pc' := 188) rfl dX9_image_185 l_RX9_226 i108 fd9_71.1 fd9_71.2.1 fd9_71.2.2.1 fd9_71.2.2.2 f108_71 rfl ?_
    refine R_iload_n (pc' := 189) dX9_image_188 rfl rfl ?_
    refine R_aload_n (pc' := 190) dX9_image_189 rfl i108.1 rfl ?_
    refine Q_getfr (v := 130) (J := 42) (pc' := 193) rfl dX9_image_190 l_RX9_138 i108 fd9_42.1 fd9_42.2.1 fd9_42.2.2.1 fd9_42.2.2.2 f108_42 rfl ?_
    refine R_iload_n (pc' := 194) dX9_image_193 rfl rfl ?_
    have hs6 := h.1
    have h := h.2
    refine Q_zaload (N := 5) (pc' := 195) rfl dX9_image_194 i130 (by decide) hs6 rfl ?_
    have hs8 := h.1
    have h := h.2
    refine Q_zastore (N := 5) (pc' := 196) rfl dX9_image_195 i147 (by decide) hs8.1 hs8.2 rfl (fun c7 hc7 => ?_)
    have h := h c7 hc7
    refine R_aload_n (pc' := 197) dX9_image_196 rfl i108.1 rfl ?_
    refine Q_getfr (v := 142) (J := 66) (pc' := 200) rfl dX9_image_197 l_RX9_211 i108 fd9_66.1 fd9_66.2.1 fd9_66.2.2.1 fd9_66.2.2.2 f108_66 rfl ?_
    refine R_iload_n (pc' := 201) dX9_image_200 rfl rfl ?_
    refine R_aload_n (pc' := 202) dX9_image_201 rfl i108.1 rfl ?_
    refine Q_getfr (v := 129) (J := 41) (pc' := 205) rfl dX9_image_202 l_RX9_135 i108 fd9_41.1 fd9_41.2.1 fd9_41.2.2.1 fd9_41.2.2.2 f108_41 rfl ?_
    refine R_iload_n (pc' := 206) dX9_image_205 rfl rfl ?_
    have hs9 := h.1
    have h := h.2
    refine Q_iaload (N := 5) (pc' := 207) rfl dX9_image_206 i129 (by decide) hs9 rfl ?_
    have hs11 := h.1
    have h := h.2
    refine Q_iastore (N := 5) (pc' := 208) rfl dX9_image_207 i142 (by decide) hs11  rfl (fun c10 hc10 => ?_)
    have h := h c10 hc10
    refine R_iinc (L' := [_, _]) (pc' := 211) dX9_image_208 rfl (by decide) rfl rfl rfl ?_
    refine R_goto (tgt := 167) dX9_image_211 (by decide) ?_
    exact WP_wk (wk_e (wk_e wk_n)) h
set_option maxRecDepth 100000 in
theorem s_X9_image_216 {K : SK} {d : Nat} {c : ct} {Q : ct → Int → Prop} (a1 : Int) (h : (ir a1) ∧ (10 ≤ a1 → WI K (d + 1) mX9_image 254 [(2, 108), (0, 0)] [] c Q) ∧ (¬ (10 ≤ a1) → ((0 ≤ a1 ∧ a1 < 10)) ∧ ((0 ≤ a1 ∧ a1 < 10)) ∧ ∀ c4 : ct, c4 = up2 c 143 a1 (c 132 a1) → ((0 ≤ a1 ∧ a1 < 10)) ∧ ((0 ≤ a1 ∧ a1 < 10)) ∧ ∀ c7 : ct, c7 = up2 c4 144 a1 (c4 133 a1) → WI K (d + 1) mX9_image 216 [(2, 108), (0, (a1 + 1))] [] c7 Q)) : WI K (d + 1) mX9_image 216 [(2, 108), (0, a1)] [] c Q := by
  refine R_iload_n (pc' := 217) dX9_image_216 rfl rfl ?_
  refine R_bipush (pc' := 219) dX9_image_217 (by decide) rfl ?_
  have hs2 := h.1
  have h := h.2
  refine R_icmp_ge (tgt := 252) (pc' := 222) dX9_image_219 (by decide) hs2 (ir_l (by decide) (by decide)) rfl (fun hc1 => ?_) (fun hc1 => ?_)
  · have h := h.1 hc1
    refine R_iconst (pc' := 253) dX9_image_252 rfl ?_
    refine R_istore_n (L' := [_, _]) (pc' := 254) dX9_image_253 (by decide) rfl rfl rfl ?_
    exact WP_wk (wk_e (wk_e wk_n)) h
  · have h := h.2 hc1
    refine R_aload_n (pc' := 223) dX9_image_222 rfl i108.1 rfl ?_
    refine Q_getfr (v := 143) (J := 67) (pc' := 226) rfl dX9_image_223 l_RX9_214 i108 fd9_67.1 fd9_67.2.1 fd9_67.2.2.1 fd9_67.2.2.2 f108_67 rfl ?_
    refine R_iload_n (pc' := 227) dX9_image_226 rfl rfl ?_
    refine R_aload_n (pc' := 228) dX9_image_227 rfl i108.1 rfl ?_
    refine Q_getfr (v := 132) (J := 46) (pc' := 231) rfl dX9_image_228 l_RX9_150 i108 fd9_46.1 fd9_46.2.1 fd9_46.2.2.1 fd9_46.2.2.2 f108_46 rfl ?_
    refine R_iload_n (pc' := 232) dX9_image_231 rfl rfl ?_
    have hs3 := h.1
    have h := h.2
    refine Q_iaload (N := 10) (pc' := 233) rfl dX9_image_232 i132 (by decide) hs3 rfl ?_
    have hs5 := h.1
    have h := h.2
    refine Q_iastore (N := 10) (pc' := 234) rfl dX9_image_233 i143 (by decide) hs5  rfl (fun c4 hc4 => ?_)
    have h := h c4 hc4
    refine R_aload_n (pc' := 235) dX9_image_234 rfl i108.1 rfl ?_
    refine Q_getfr (v := 144) (J := 68) (pc' := 238) rfl dX9_image_235 l_RX9_217 i108 fd9_68.1 fd9_68.2.1 fd9_68.2.2.1 fd9_68.2.2.2 f108_68 rfl ?_
    refine R_iload_n (pc' := 239) dX9_image_238 rfl rfl ?_
    refine R_aload_n (pc' := 240) dX9_image_239 rfl i108.1 rfl ?_
    refine Q_getfr (v := 133) (J := 47) (pc' := 243) rfl dX9_image_240 l_RX9_153 i108 fd9_47.1 fd9_47.2.1 fd9_47.2.2.1 fd9_47.2.2.2 f108_47 rfl ?_
    refine R_iload_n (pc' := 244) dX9_image_243 rfl rfl ?_
    have hs6 := h.1
    have h := h.2
    refine Q_iaload (N := 10) (pc' := 245) rfl dX9_image_244 i133 (by decide) hs6 rfl ?_
    have hs8 := h.1
    have h := h.2
    refine Q_iastore (N := 10) (pc' := 246) rfl dX9_image_245 i144 (by decide) hs8  rfl (fun c7 hc7 => ?_)
    have h := h c7 hc7
    refine R_iinc (L' := [_, _]) (pc' := 249) dX9_image_246 rfl (by decide) rfl rfl rfl ?_
    refine R_goto (tgt := 216) dX9_image_249 (by decide) ?_
    exact WP_wk (wk_e (wk_e wk_n)) h
set_option maxRecDepth 100000 in
theorem s_X9_image_254 {K : SK} {d : Nat} {c : ct} {Q : ct → Int → Prop} (a1 : Int) (h : (ir a1) ∧ (8 ≤ a1 → Q c (c 108 0)) ∧ (¬ (8 ≤ a1) → ((0 ≤ a1 ∧ a1 < 8)) ∧ ((0 ≤ a1 ∧ a1 < 8)) ∧ ∀ c4 : ct, c4 = up2 c 145 a1 (c 134 a1) → ((0 ≤ a1 ∧ a1 < 8)) ∧ ((0 ≤ a1 ∧ a1 < 8)) ∧ ∀ c7 : ct, c7 = up2 c4 146 a1 (c4 135 a1) → WI K (d + 1) mX9_image 254 [(2, 108), (0, (a1 + 1))] [] c7 Q)) : WI K (d + 1) mX9_image 254 [(2, 108), (0, a1)] [] c Q := by
  refine R_iload_n (pc' := 255) dX9_image_254 rfl rfl ?_
  refine R_bipush (pc' := 257) dX9_image_255 (by decide) rfl ?_
  have hs2 := h.1
  have h := h.2
  refine R_icmp_ge (tgt := 290) (pc' := 260) dX9_image_257 (by decide) hs2 (ir_l (by decide) (by decide)) rfl (fun hc1 => ?_) (fun hc1 => ?_)
  · have h := h.1 hc1
    refine R_aload_n (pc' := 291) dX9_image_290 rfl i108.1 rfl ?_
    refine Q_getfi (J := 0) (pc' := 294) rfl dX9_image_291 l_RX9_7 i108 fd9_0.1 fd9_0.2.1 fd9_0.2.2.1 rfl ?_
    exact Q_iret dX9_image_294 rfl h
  · have h := h.2 hc1
    refine R_aload_n (pc' := 261) dX9_image_260 rfl i108.1 rfl ?_
    refine Q_getfr (v := 145) (J := 69) (pc' := 264) rfl dX9_image_261 l_RX9_220 i108 fd9_69.1 fd9_69.2.1 fd9_69.2.2.1 fd9_69.2.2.2 f108_69 rfl ?_
    refine R_iload_n (pc' := 265) dX9_image_264 rfl rfl ?_
    refine R_aload_n (pc' := 266) dX9_image_265 rfl i108.1 rfl ?_
    refine Q_getfr (v := 134) (J := 48) (pc' := 269) rfl dX9_image_266 l_RX9_156 i108 fd9_48.1 fd9_48.2.1 fd9_48.2.2.1 fd9_48.2.2.2 f108_48 rfl ?_
    refine R_iload_n (pc' := 270) dX9_image_269 rfl rfl ?_
    have hs3 := h.1
    have h := h.2
    refine Q_iaload (N := 8) (pc' := 271) rfl dX9_image_270 i134 (by decide) hs3 rfl ?_
    have hs5 := h.1
    have h := h.2
    refine Q_iastore (N := 8) (pc' := 272) rfl dX9_image_271 i145 (by decide) hs5  rfl (fun c4 hc4 => ?_)
    have h := h c4 hc4
    refine R_aload_n (pc' := 273) dX9_image_272 rfl i108.1 rfl ?_
    refine Q_getfr (v := 146) (J := 70) (pc' := 276) rfl dX9_image_273 l_RX9_223 i108 fd9_70.1 fd9_70.2.1 fd9_70.2.2.1 fd9_70.2.2.2 f108_70 rfl ?_
    refine R_iload_n (pc' := 277) dX9_image_276 rfl rfl ?_
    refine R_aload_n (pc' := 278) dX9_image_277 rfl i108.1 rfl ?_
    refine Q_getfr (v := 135) (J := 49) (pc' := 281) rfl dX9_image_278 l_RX9_159 i108 fd9_49.1 fd9_49.2.1 fd9_49.2.2.1 fd9_49.2.2.2 f108_49 rfl ?_
    refine R_iload_n (pc' := 282) dX9_image_281 rfl rfl ?_
    have hs6 := h.1
    have h := h.2
    refine Q_iaload (N := 8) (pc' := 283) rfl dX9_image_282 i135 (by decide) hs6 rfl ?_
    have hs8 := h.1
    have h := h.2
    refine Q_iastore (N := 8) (pc' := 284) rfl dX9_image_283 i146 (by decide) hs8  rfl (fun c7 hc7 => ?_)
    have h := h c7 hc7
    refine R_iinc (L' := [_, _]) (pc' := 287) dX9_image_284 rfl (by decide) rfl rfl rfl ?_
    refine R_goto (tgt := 254) dX9_image_287 (by decide) ?_
    exact WP_wk (wk_e (wk_e wk_n)) h
theorem e_X9_image {K : SK} {d : Nat} {c : ct} {Q : ct → Int → Prop}  (h : WI K (d + 1) mX9_image 0 [(2, 108), (9, 0)] [] c Q) : CI K (d + 1) mX9_image [(2, 108)] c Q := CM_ofS (by decide) (Nat.le_of_ble_eq_true rfl) _ rfl h
set_option maxRecDepth 100000 in
theorem s_X9_undo_0 {K : SK} {d : Nat} {c : ct} {Q : ct → Int → Prop}  (h : ((c 108 50) = 0 → Q c (-3)) ∧ (¬ ((c 108 50) = 0) → ir (c 108 50) ∧ ∀ c2 : ct, c2 = up2 c 108 11 (c 108 51) → ∀ c3 : ct, c3 = up2 c2 108 0 (c2 108 52) → ∀ c4 : ct, c4 = up2 c3 108 1 (c3 108 53) → ∀ c5 : ct, c5 = up2 c4 108 2 (c4 108 54) → ∀ c6 : ct, c6 = up2 c5 108 3 (c5 108 55) → ∀ c7 : ct, c7 = up2 c6 108 4 (c6 108 56) → ∀ c8 : ct, c8 = up2 c7 108 39 (c7 108 57) → ∀ c9 : ct, c9 = up2 c8 108 44 (c8 108 58) → ∀ c10 : ct, c10 = up2 c9 108 45 (c9 108 59) → WI K (d + 1) mX9_undo 84 [(2, 108), (0, 0)] [] c10 Q)) : WI K (d + 1) mX9_undo 0 [(2, 108), (9, 0)] [] c Q := by
  refine R_aload_n (pc' := 1) dX9_undo_0 rfl i108.1 rfl ?_
  refine Q_getfi (J := 50) (pc' := 4) rfl dX9_undo_1 l_RX9_162 i108 fd9_50.1 fd9_50.2.1 fd9_50.2.2.1 rfl ?_
  by_cases hc1 : (c 108 50) = 0
  · have h := h.1 hc1
    refine R_neS_if (tgt := 10) (pc' := 7) dX9_undo_4 (by decide) hc1 rfl ?_
    refine R_bipush (pc' := 9) dX9_undo_7 (by decide) rfl ?_
    exact Q_iret dX9_undo_9 rfl h
  · have h := h.2 hc1
    refine R_neD_if (tgt := 10) (pc' := 7) dX9_undo_4 (by decide) hc1 h.1 rfl ?_
    have h := h.2
    refine R_aload_n (pc' := 11) dX9_undo_10 rfl i108.1 rfl ?_
    refine R_aload_n (pc' := 12) dX9_undo_11 rfl i108.1 rfl ?_
    refine Q_getfi (J := 51) (pc' := 15) rfl dX9_undo_12 l_RX9_166 i108 fd9_51.1 fd9_51.2.1 fd9_51.2.2.1 rfl ?_
    refine Q_putfi (J := 11) (pc' := 18) rfl dX9_undo_15 l_RX9_44 i108 fd9_11.1 fd9_11.2.1 fd9_11.2.2.2.1 fd9_11.2.2.2.2 rfl (fun c2 hc2 => ?_)
    have h := h c2 hc2
    refine R_aload_n (pc' := 19) dX9_undo_18 rfl i108.1 rfl ?_
    refine R_aload_n (pc' := 20) dX9_undo_19 rfl i108.1 rfl ?_
    refine Q_getfi (J := 52) (pc' := 23) rfl dX9_undo_20 l_RX9_169 i108 fd9_52.1 fd9_52.2.1 fd9_52.2.2.1 rfl ?_
    refine Q_putfi (J := 0) (pc' := 26) rfl dX9_undo_23 l_RX9_7 i108 fd9_0.1 fd9_0.2.1 fd9_0.2.2.2.1 fd9_0.2.2.2.2 rfl (fun c3 hc3 => ?_)
    have h := h c3 hc3
    refine R_aload_n (pc' := 27) dX9_undo_26 rfl i108.1 rfl ?_
    refine R_aload_n (pc' := 28) dX9_undo_27 rfl i108.1 rfl ?_
    refine Q_getfi (J := 53) (pc' := 31) rfl dX9_undo_28 l_RX9_172 i108 fd9_53.1 fd9_53.2.1 fd9_53.2.2.1 rfl ?_
    refine Q_putfi (J := 1) (pc' := 34) rfl dX9_undo_31 l_RX9_13 i108 fd9_1.1 fd9_1.2.1 fd9_1.2.2.2.1 fd9_1.2.2.2.2 rfl (fun c4 hc4 => ?_)
    have h := h c4 hc4
    refine R_aload_n (pc' := 35) dX9_undo_34 rfl i108.1 rfl ?_
    refine R_aload_n (pc' := 36) dX9_undo_35 rfl i108.1 rfl ?_
    refine Q_getfi (J := 54) (pc' := 39) rfl dX9_undo_36 l_RX9_175 i108 fd9_54.1 fd9_54.2.1 fd9_54.2.2.1 rfl ?_
    refine Q_putfi (J := 2) (pc' := 42) rfl dX9_undo_39 l_RX9_16 i108 fd9_2.1 fd9_2.2.1 fd9_2.2.2.2.1 fd9_2.2.2.2.2 rfl (fun c5 hc5 => ?_)
    have h := h c5 hc5
    refine R_aload_n (pc' := 43) dX9_undo_42 rfl i108.1 rfl ?_
    refine R_aload_n (pc' := 44) dX9_undo_43 rfl i108.1 rfl ?_
    refine Q_getfi (J := 55) (pc' := 47) rfl dX9_undo_44 l_RX9_178 i108 fd9_55.1 fd9_55.2.1 fd9_55.2.2.1 rfl ?_
    refine Q_putfi (J := 3) (pc' := 50) rfl dX9_undo_47 l_RX9_19 i108 fd9_3.1 fd9_3.2.1 fd9_3.2.2.2.1 fd9_3.2.2.2.2 rfl (fun c6 hc6 => ?_)
    have h := h c6 hc6
    refine R_aload_n (pc' := 51) dX9_undo_50 rfl i108.1 rfl ?_
    refine R_aload_n (pc' := 52) dX9_undo_51 rfl i108.1 rfl ?_
    refine Q_getfi (J := 56) (pc' := 55) rfl dX9_undo_52 l_RX9_181 i108 fd9_56.1 fd9_56.2.1 fd9_56.2.2.1 rfl ?_
    refine Q_putfi (J := 4) (pc' := 58) rfl dX9_undo_55 l_RX9_22 i108 fd9_4.1 fd9_4.2.1 fd9_4.2.2.2.1 fd9_4.2.2.2.2 rfl (fun c7 hc7 => ?_)
    have h := h c7 hc7
    refine R_aload_n (pc' := 59) dX9_undo_58 rfl i108.1 rfl ?_
    refine R_aload_n (pc' := 60) dX9_undo_59 rfl i108.1 rfl ?_
    refine Q_getfi (J := 57) (pc' := 63) rfl dX9_undo_60 l_RX9_184 i108 fd9_57.1 fd9_57.2.1 fd9_57.2.2.1 rfl ?_
    refine Q_putfi (J := 39) (pc' := 66) rfl dX9_undo_63 l_RX9_129 i108 fd9_39.1 fd9_39.2.1 fd9_39.2.2.2.1 fd9_39.2.2.2.2 rfl (fun c8 hc8 => ?_)
    have h := h c8 hc8
    refine R_aload_n (pc' := 67) dX9_undo_66 rfl i108.1 rfl ?_
    refine R_aload_n (pc' := 68) dX9_undo_67 rfl i108.1 rfl ?_
    refine Q_getfi (J := 58) (pc' := 71) rfl dX9_undo_68 l_RX9_187 i108 fd9_58.1 fd9_58.2.1 fd9_58.2.2.1 rfl ?_
    refine Q_putfi (J := 44) (pc' := 74) rfl dX9_undo_71 l_RX9_144 i108 fd9_44.1 fd9_44.2.1 fd9_44.2.2.2.1 fd9_44.2.2.2.2 rfl (fun c9 hc9 => ?_)
    have h := h c9 hc9
    refine R_aload_n (pc' := 75) dX9_undo_74 rfl i108.1 rfl ?_
    refine R_aload_n (pc' := 76) dX9_undo_75 rfl i108.1 rfl ?_
    refine Q_getfi (J := 59) (pc' := 79) rfl dX9_undo_76 l_RX9_190 i108 fd9_59.1 fd9_59.2.1 fd9_59.2.2.1 rfl ?_
    refine Q_putfi (J := 45) (pc' := 82) rfl dX9_undo_79 l_RX9_147 i108 fd9_45.1 fd9_45.2.1 fd9_45.2.2.2.1 fd9_45.2.2.2.2 rfl (fun c10 hc10 => ?_)
    have h := h c10 hc10
    refine R_iconst (pc' := 83) dX9_undo_82 rfl ?_
    refine R_istore_n (L' := [_, _]) (pc' := 84) dX9_undo_83 (by decide) rfl rfl rfl ?_
    exact WP_wk (wk_e (wk_e wk_n)) h
set_option maxRecDepth 100000 in
theorem s_X9_undo_84 {K : SK} {d : Nat} {c : ct} {Q : ct → Int → Prop} (a1 : Int) (h : (ir a1) ∧ (6 ≤ a1 → WI K (d + 1) mX9_undo 146 [(2, 108), (0, 0)] [] c Q) ∧ (¬ (6 ≤ a1) → ((0 ≤ a1 ∧ a1 < 6)) ∧ ((0 ≤ a1 ∧ a1 < 6)) ∧ ∀ c4 : ct, c4 = up2 c 109 a1 (c 136 a1) → ((0 ≤ a1 ∧ a1 < 6)) ∧ ((0 ≤ a1 ∧ a1 < 6)) ∧ ∀ c7 : ct, c7 = up2 c4 110 a1 (c4 137 a1) → ((0 ≤ a1 ∧ a1 < 6)) ∧ ((0 ≤ a1 ∧ a1 < 6)) ∧ ∀ c10 : ct, c10 = up2 c7 111 a1 (c7 138 a1) → ((0 ≤ a1 ∧ a1 < 6)) ∧ ((0 ≤ a1 ∧ a1 < 6)) ∧ ∀ c13 : ct, c13 = up2 c10 112 a1 (c10 139 a1) → WI K (d + 1) mX9_undo 84 [(2, 108), (0, (a1 + 1))] [] c13 Q)) : WI K (d + 1) mX9_undo 84 [(2, 108), (0, a1)] [] c Q := by
  refine R_iload_n (pc' := 85) dX9_undo_84 rfl rfl ?_
  refine R_bipush (pc' := 87) dX9_undo_85 (by decide) rfl ?_
  have hs2 := h.1
  have h := h.2
  refine R_icmp_ge (tgt := 144) (pc' := 90) dX9_undo_87 (by decide) hs2 (ir_l (by decide) (by decide)) rfl (fun hc1 => ?_) (fun hc1 => ?_)
  · have h := h.1 hc1
    refine R_iconst (pc' := 145) dX9_undo_144 rfl ?_
    refine R_istore_n (L' := [_, _]) (pc' := 146) dX9_undo_145 (by decide) rfl rfl rfl ?_
    exact WP_wk (wk_e (wk_e wk_n)) h
  · have h := h.2 hc1
    refine R_aload_n (pc' := 91) dX9_undo_90 rfl i108.1 rfl ?_
    refine Q_getfr (v := 109) (J := 5) (pc' := 94) rfl dX9_undo_91 l_RX9_25 i108 fd9_5.1 fd9_5.2.1 fd9_5.2.2.1 fd9_5.2.2.2 f108_5 rfl ?_
    refine R_iload_n (pc' := 95) dX9_undo_94 rfl rfl ?_
    refine R_aload_n (pc' := 96) dX9_undo_95 rfl i108.1 rfl ?_
    refine Q_getfr (v := 136) (J := 60) (pc' := 99) rfl dX9_undo_96 l_RX9_193 i108 fd9_60.1 fd9_60.2.1 fd9_60.2.2.1 fd9_60.2.2.2 f108_60 rfl ?_
    refine R_iload_n (pc' := 100) dX9_undo_99 rfl rfl ?_
    have hs3 := h.1
    have h := h.2
    refine Q_iaload (N := 6) (pc' := 101) rfl dX9_undo_100 i136 (by decide) hs3 rfl ?_
    have hs5 := h.1
    have h := h.2
    refine Q_iastore (N := 6) (pc' := 102) rfl dX9_undo_101 i109 (by decide) hs5  rfl (fun c4 hc4 => ?_)
    have h := h c4 hc4
    refine R_aload_n (pc' := 103) dX9_undo_102 rfl i108.1 rfl ?_
    refine Q_getfr (v := 110) (J := 6) (pc' := 106) rfl dX9_undo_103 l_RX9_29 i108 fd9_6.1 fd9_6.2.1 fd9_6.2.2.1 fd9_6.2.2.2 f108_6 rfl ?_
    refine R_iload_n (pc' := 107) dX9_undo_106 rfl rfl ?_
    refine R_aload_n (pc' := 108) dX9_undo_107 rfl i108.1 rfl ?_
    refine Q_getfr (v := 137) (J := 61) (pc' := 111) rfl dX9_undo_108 l_RX9_196 i108 fd9_61.1 fd9_61.2.1 fd9_61.2.2.1 fd9_61.2.2.2 f108_61 rfl ?_
    refine R_iload_n (pc' := 112) dX9_undo_111 rfl rfl ?_
    have hs6 := h.1
    have h := h.2
    refine Q_iaload (N := 6) (pc' := 113) rfl dX9_undo_112 i137 (by decide) hs6 rfl ?_
    have hs8 := h.1
    have h := h.2
    refine Q_iastore (N := 6) (pc' := 114) rfl dX9_undo_113 i110 (by decide) hs8  rfl (fun c7 hc7 => ?_)
    have h := h c7 hc7
    refine R_aload_n (pc' := 115) dX9_undo_114 rfl i108.1 rfl ?_
    refine Q_getfr (v := 111) (J := 7) (pc' := 118) rfl dX9_undo_115 l_RX9_32 i108 fd9_7.1 fd9_7.2.1 fd9_7.2.2.1 fd9_7.2.2.2 f108_7 rfl ?_
    refine R_iload_n (pc' := 119) dX9_undo_118 rfl rfl ?_
    refine R_aload_n (pc' := 120) dX9_undo_119 rfl i108.1 rfl ?_
    refine Q_getfr (v := 138) (J := 62) (pc' := 123) rfl dX9_undo_120 l_RX9_199 i108 fd9_62.1 fd9_62.2.1 fd9_62.2.2.1 fd9_62.2.2.2 f108_62 rfl ?_
    refine R_iload_n (pc' := 124) dX9_undo_123 rfl rfl ?_
    have hs9 := h.1
    have h := h.2
    refine Q_iaload (N := 6) (pc' := 125) rfl dX9_undo_124 i138 (by decide) hs9 rfl ?_
    have hs11 := h.1
    have h := h.2
    refine Q_iastore (N := 6) (pc' := 126) rfl dX9_undo_125 i111 (by decide) hs11  rfl (fun c10 hc10 => ?_)
    have h := h c10 hc10
    refine R_aload_n (pc' := 127) dX9_undo_126 rfl i108.1 rfl ?_
    refine Q_getfr (v := 112) (J := 8) (pc' := 130) rfl dX9_undo_127 l_RX9_35 i108 fd9_8.1 fd9_8.2.1 fd9_8.2.2.1 fd9_8.2.2.2 f108_8 rfl ?_
    refine R_iload_n (pc' := 131) dX9_undo_130 rfl rfl ?_
    refine R_aload_n (pc' := 132) dX9_undo_131 rfl i108.1 rfl ?_
    refine Q_getfr (v := 139) (J := 63) (pc' := 135) rfl dX9_undo_132 l_RX9_202 i108 fd9_63.1 fd9_63.2.1 fd9_63.2.2.1 fd9_63.2.2.2 f108_63 rfl ?_
    refine R_iload_n (pc' := 136) dX9_undo_135 rfl rfl ?_
    have hs12 := h.1
    have h := h.2
    refine Q_iaload (N := 6) (pc' := 137) rfl dX9_undo_136 i139 (by decide) hs12 rfl ?_
    have hs14 := h.1
    have h := h.2
    refine Q_iastore (N := 6) (pc' := 138) rfl dX9_undo_137 i112 (by decide) hs14  rfl (fun c13 hc13 => ?_)
    have h := h c13 hc13
    refine R_iinc (L' := [_, _]) (pc' := 141) dX9_undo_138 rfl (by decide) rfl rfl rfl ?_
    refine R_goto (tgt := 84) dX9_undo_141 (by decide) ?_
    exact WP_wk (wk_e (wk_e wk_n)) h
set_option maxRecDepth 100000 in
theorem s_X9_undo_146 {K : SK} {d : Nat} {c : ct} {Q : ct → Int → Prop} (a1 : Int) (h : (ir a1) ∧ (24 ≤ a1 → WI K (d + 1) mX9_undo 172 [(2, 108), (0, 0)] [] c Q) ∧ (¬ (24 ≤ a1) → ((0 ≤ a1 ∧ a1 < 24)) ∧ ((0 ≤ a1 ∧ a1 < 24)) ∧ ∀ c4 : ct, c4 = up2 c 113 a1 (c 140 a1) → WI K (d + 1) mX9_undo 146 [(2, 108), (0, (a1 + 1))] [] c4 Q)) : WI K (d + 1) mX9_undo 146 [(2, 108), (0, a1)] [] c Q := by
  refine R_iload_n (pc' := 147) dX9_undo_146 rfl rfl ?_
  refine R_bipush (pc' := 149) dX9_undo_147 (by decide) rfl ?_
  have hs2 := h.1
  have h := h.2
  refine R_icmp_ge (tgt := 170) (pc' := 152) dX9_undo_149 (by decide) hs2 (ir_l (by decide) (by decide)) rfl (fun hc1 => ?_) (fun hc1 => ?_)
  · have h := h.1 hc1
    refine R_iconst (pc' := 171) dX9_undo_170 rfl ?_
    refine R_istore_n (L' := [_, _]) (pc' := 172) dX9_undo_171 (by decide) rfl rfl rfl ?_
    exact WP_wk (wk_e (wk_e wk_n)) h
  · have h := h.2 hc1
    refine R_aload_n (pc' := 153) dX9_undo_152 rfl i108.1 rfl ?_
    refine Q_getfr (v := 113) (J := 9) (pc' := 156) rfl dX9_undo_153 l_RX9_38 i108 fd9_9.1 fd9_9.2.1 fd9_9.2.2.1 fd9_9.2.2.2 f108_9 rfl ?_
    refine R_iload_n (pc' := 157) dX9_undo_156 rfl rfl ?_
    refine R_aload_n (pc' := 158) dX9_undo_157 rfl i108.1 rfl ?_
    refine Q_getfr (v := 140) (J := 64) (pc' := 161) rfl dX9_undo_158 l_RX9_205 i108 fd9_64.1 fd9_64.2.1 fd9_64.2.2.1 fd9_64.2.2.2 f108_64 rfl ?_
    refine R_iload_n (pc' := 162) dX9_undo_161 rfl rfl ?_
    have hs3 := h.1
    have h := h.2
    refine Q_iaload (N := 24) (pc' := 163) rfl dX9_undo_162 i140 (by decide) hs3 rfl ?_
    have hs5 := h.1
    have h := h.2
    refine Q_iastore (N := 24) (pc' := 164) rfl dX9_undo_163 i113 (by decide) hs5  rfl (fun c4 hc4 => ?_)
    have h := h c4 hc4
    refine R_iinc (L' := [_, _]) (pc' := 167) dX9_undo_164 rfl (by decide) rfl rfl rfl ?_
    refine R_goto (tgt := 146) dX9_undo_167 (by decide) ?_
    exact WP_wk (wk_e (wk_e wk_n)) h
set_option maxRecDepth 100000 in
theorem s_X9_undo_172 {K : SK} {d : Nat} {c : ct} {Q : ct → Int → Prop} (a1 : Int) (h : (ir a1) ∧ (5 ≤ a1 → WI K (d + 1) mX9_undo 221 [(2, 108), (0, 0)] [] c Q) ∧ (¬ (5 ≤ a1) → ((0 ≤ a1 ∧ a1 < 5)) ∧ ((0 ≤ a1 ∧ a1 < 5)) ∧ ∀ c4 : ct, c4 = up2 c 128 a1 (c 141 a1) → ((0 ≤ a1 ∧ a1 < 5)) ∧ ((0 ≤ a1 ∧ a1 < 5) ∧ ((c4 147 a1) = 0 ∨ (c4 147 a1) = 1)) ∧ ∀ c7 : ct, c7 = up2 c4 130 a1 (c4 147 a1) → ((0 ≤ a1 ∧ a1 < 5)) ∧ ((0 ≤ a1 ∧ a1 < 5)) ∧ ∀ c10 : ct, c10 = up2 c7 129 a1 (c7 142 a1) → WI K (d + 1) mX9_undo 172 [(2, 108), (0, (a1 + 1))] [] c10 Q)) : WI K (d + 1) mX9_undo 172 [(2, 108), (0, a1)] [] c Q := by
  refine R_iload_n (pc' := 173) dX9_undo_172 rfl rfl ?_
  refine R_iconst (pc' := 174) dX9_undo_173 rfl ?_
  have hs2 := h.1
  have h := h.2
  refine R_icmp_ge (tgt := 219) (pc' := 177) dX9_undo_174 (by decide) hs2 (ir_l (by decide) (by decide)) rfl (fun hc1 => ?_) (fun hc1 => ?_)
  · have h := h.1 hc1
    refine R_iconst (pc' := 220) dX9_undo_219 rfl ?_
    refine R_istore_n (L' := [_, _]) (pc' := 221) dX9_undo_220 (by decide) rfl rfl rfl ?_
    exact WP_wk (wk_e (wk_e wk_n)) h
  · have h := h.2 hc1
    refine R_aload_n (pc' := 178) dX9_undo_177 rfl i108.1 rfl ?_
    refine Q_getfr (v := 128) (J := 40) (pc' := 181) rfl dX9_undo_178 l_RX9_132 i108 fd9_40.1 fd9_40.2.1 fd9_40.2.2.1 fd9_40.2.2.2 f108_40 rfl ?_
    refine R_iload_n (pc' := 182) dX9_undo_181 rfl rfl ?_
    refine R_aload_n (pc' := 183) dX9_undo_182 rfl i108.1 rfl ?_
    refine Q_getfr (v := 141) (J := 65) (pc' := 186) rfl dX9_undo_183 l_RX9_208 i108 fd9_65.1 fd9_65.2.1 fd9_65.2.2.1 fd9_65.2.2.2 f108_65 rfl ?_
    refine R_iload_n (pc' := 187) dX9_undo_186 rfl rfl ?_
    have hs3 := h.1
    have h := h.2
    refine Q_iaload (N := 5) (pc' := 188) rfl dX9_undo_187 i141 (by decide) hs3 rfl ?_
    have hs5 := h.1
    have h := h.2
    refine Q_iastore (N := 5) (pc' := 189) rfl dX9_undo_188 i128 (by decide) hs5  rfl (fun c4 hc4 => ?_)
    have h := h c4 hc4
    refine R_aload_n (pc' := 190) dX9_undo_189 rfl i108.1 rfl ?_
    refine Q_getfr (v := 130) (J := 42) (pc' := 193) rfl dX9_undo_190 l_RX9_138 i108 fd9_42.1 fd9_42.2.1 fd9_42.2.2.1 fd9_42.2.2.2 f108_42 rfl ?_
    refine R_iload_n (pc' := 194) dX9_undo_193 rfl rfl ?_
    refine R_aload_n (pc' := 195) dX9_undo_194 rfl i108.1 rfl ?_
    refine Q_getfr (v := 147) (J := 71) (pc' := 198) rfl dX9_undo_195 l_RX9_226 i108 fd9_71.1 fd9_71.2.1 fd9_71.2.2.1 fd9_71.2.2.2 f108_71 rfl ?_
    refine R_iload_n (pc' := 199) dX9_undo_198 rfl rfl ?_
    have hs6 := h.1
    have h := h.2
    refine Q_zaload (N := 5) (pc' := 200) rfl dX9_undo_199 i147 (by decide) hs6 rfl ?_
    have hs8 := h.1
    have h := h.2
    refine Q_zastore (N := 5) (pc' := 201) rfl dX9_undo_200 i130 (by decide) hs8.1 hs8.2 rfl (fun c7 hc7 => ?_)
    have h := h c7 hc7
    refine R_aload_n (pc' := 202) dX9_undo_201 rfl i108.1 rfl ?_
    refine Q_getfr (v := 129) (J := 41) (pc' := 205) rfl dX9_undo_202 l_RX9_135 i108 fd9_41.1 fd9_41.2.1 fd9_41.2.2.1 fd9_41.2.2.2 f108_41 rfl ?_
    refine R_iload_n (pc' := 206) dX9_undo_205 rfl rfl ?_
    refine R_aload_n (pc' := 207) dX9_undo_206 rfl i108.1 rfl ?_
    refine Q_getfr (v := 142) (J := 66) (pc' := 210) rfl dX9_undo_207 l_RX9_211 i108 fd9_66.1 fd9_66.2.1 fd9_66.2.2.1 fd9_66.2.2.2 f108_66 rfl ?_
    refine R_iload_n (pc' := 211) dX9_undo_210 rfl rfl ?_
    have hs9 := h.1
    have h := h.2
    refine Q_iaload (N := 5) (pc' := 212) rfl dX9_undo_211 i142 (by decide) hs9 rfl ?_
    have hs11 := h.1
    have h := h.2
    refine Q_iastore (N := 5) (pc' := 213) rfl dX9_undo_212 i129 (by decide) hs11  rfl (fun c10 hc10 => ?_)
    have h := h c10 hc10
    refine R_iinc (L' := [_, _]) (pc' := 216) dX9_undo_213 rfl (by decide) rfl rfl rfl ?_
    refine R_goto (tgt := 172) dX9_undo_216 (by decide) ?_
    exact WP_wk (wk_e (wk_e wk_n)) h
set_option maxRecDepth 100000 in
theorem s_X9_undo_221 {K : SK} {d : Nat} {c : ct} {Q : ct → Int → Prop} (a1 : Int) (h : (ir a1) ∧ (10 ≤ a1 → WI K (d + 1) mX9_undo 259 [(2, 108), (0, 0)] [] c Q) ∧ (¬ (10 ≤ a1) → ((0 ≤ a1 ∧ a1 < 10)) ∧ ((0 ≤ a1 ∧ a1 < 10)) ∧ ∀ c4 : ct, c4 = up2 c 132 a1 (c 143 a1) → ((0 ≤ a1 ∧ a1 < 10)) ∧ ((0 ≤ a1 ∧ a1 < 10)) ∧ ∀ c7 : ct, c7 = up2 c4 133 a1 (c4 144 a1) → WI K (d + 1) mX9_undo 221 [(2, 108), (0, (a1 + 1))] [] c7 Q)) : WI K (d + 1) mX9_undo 221 [(2, 108), (0, a1)] [] c Q := by
  refine R_iload_n (pc' := 222) dX9_undo_221 rfl rfl ?_
  refine R_bipush (pc' := 224) dX9_undo_222 (by decide) rfl ?_
  have hs2 := h.1
  have h := h.2
  refine R_icmp_ge (tgt := 257) (pc' := 227) dX9_undo_224 (by decide) hs2 (ir_l (by decide) (by decide)) rfl (fun hc1 => ?_) (fun hc1 => ?_)
  · have h := h.1 hc1
    refine R_iconst (pc' := 258) dX9_undo_257 rfl ?_
    refine R_istore_n (L' := [_, _]) (pc' := 259) dX9_undo_258 (by decide) rfl rfl rfl ?_
    exact WP_wk (wk_e (wk_e wk_n)) h
  · have h := h.2 hc1
    refine R_aload_n (pc' := 228) dX9_undo_227 rfl i108.1 rfl ?_
    refine Q_getfr (v := 132) (J := 46) (pc' := 231) rfl dX9_undo_228 l_RX9_150 i108 fd9_46.1 fd9_46.2.1 fd9_46.2.2.1 fd9_46.2.2.2 f108_46 rfl ?_
    refine R_iload_n (pc' := 232) dX9_undo_231 rfl rfl ?_
    refine R_aload_n (pc' := 233) dX9_undo_232 rfl i108.1 rfl ?_
    refine Q_getfr (v := 143) (J := 67) (pc' := 236) rfl dX9_undo_233 l_RX9_214 i108 fd9_67.1 fd9_67.2.1 fd9_67.2.2.1 fd9_67.2.2.2 f108_67 rfl ?_
    refine R_iload_n (pc' := 237) dX9_undo_236 rfl rfl ?_
    have hs3 := h.1
    have h := h.2
    refine Q_iaload (N := 10) (pc' := 238) rfl dX9_undo_237 i143 (by decide) hs3 rfl ?_
    have hs5 := h.1
    have h := h.2
    refine Q_iastore (N := 10) (pc' := 239) rfl dX9_undo_238 i132 (by decide) hs5  rfl (fun c4 hc4 => ?_)
    have h := h c4 hc4
    refine R_aload_n (pc' := 240) dX9_undo_239 rfl i108.1 rfl ?_
    refine Q_getfr (v := 133) (J := 47) (pc' := 243) rfl dX9_undo_240 l_RX9_153 i108 fd9_47.1 fd9_47.2.1 fd9_47.2.2.1 fd9_47.2.2.2 f108_47 rfl ?_
    refine R_iload_n (pc' := 244) dX9_undo_243 rfl rfl ?_
    refine R_aload_n (pc' := 245) dX9_undo_244 rfl i108.1 rfl ?_
    refine Q_getfr (v := 144) (J := 68) (pc' := 248) rfl dX9_undo_245 l_RX9_217 i108 fd9_68.1 fd9_68.2.1 fd9_68.2.2.1 fd9_68.2.2.2 f108_68 rfl ?_
    refine R_iload_n (pc' := 249) dX9_undo_248 rfl rfl ?_
    have hs6 := h.1
    have h := h.2
    refine Q_iaload (N := 10) (pc' := 250) rfl dX9_undo_249 i144 (by decide) hs6 rfl ?_
    have hs8 := h.1
    have h := h.2
    refine Q_iastore (N := 10) (pc' := 251) rfl dX9_undo_250 i133 (by decide) hs8  rfl (fun c7 hc7 => ?_)
    have h := h c7 hc7
    refine R_iinc (L' := [_, _]) (pc' := 254) dX9_undo_251 rfl (by decide) rfl rfl rfl ?_
    refine R_goto (tgt := 221) dX9_undo_254 (by decide) ?_
    exact WP_wk (wk_e (wk_e wk_n)) h
set_option maxRecDepth 100000 in
theorem s_X9_undo_259 {K : SK} {d : Nat} {c : ct} {Q : ct → Int → Prop} (a1 : Int) (h : (ir a1) ∧ (8 ≤ a1 → Q c (c 108 0)) ∧ (¬ (8 ≤ a1) → ((0 ≤ a1 ∧ a1 < 8)) ∧ ((0 ≤ a1 ∧ a1 < 8)) ∧ ∀ c4 : ct, c4 = up2 c 134 a1 (c 145 a1) → ((0 ≤ a1 ∧ a1 < 8)) ∧ ((0 ≤ a1 ∧ a1 < 8)) ∧ ∀ c7 : ct, c7 = up2 c4 135 a1 (c4 146 a1) → WI K (d + 1) mX9_undo 259 [(2, 108), (0, (a1 + 1))] [] c7 Q)) : WI K (d + 1) mX9_undo 259 [(2, 108), (0, a1)] [] c Q := by
  refine R_iload_n (pc' := 260) dX9_undo_259 rfl rfl ?_
  refine R_bipush (pc' := 262) dX9_undo_260 (by decide) rfl ?_
  have hs2 := h.1
  have h := h.2
  refine R_icmp_ge (tgt := 295) (pc' := 265) dX9_undo_262 (by decide) hs2 (ir_l (by decide) (by decide)) rfl (fun hc1 => ?_) (fun hc1 => ?_)
  · have h := h.1 hc1
    refine R_aload_n (pc' := 296) dX9_undo_295 rfl i108.1 rfl ?_
    refine Q_getfi (J := 0) (pc' := 299) rfl dX9_undo_296 l_RX9_7 i108 fd9_0.1 fd9_0.2.1 fd9_0.2.2.1 rfl ?_
    exact Q_iret dX9_undo_299 rfl h
  · have h := h.2 hc1
    refine R_aload_n (pc' := 266) dX9_undo_265 rfl i108.1 rfl ?_
    refine Q_getfr (v := 134) (J := 48) (pc' := 269) rfl dX9_undo_266 l_RX9_156 i108 fd9_48.1 fd9_48.2.1 fd9_48.2.2.1 fd9_48.2.2.2 f108_48 rfl ?_
    refine R_iload_n (pc' := 270) dX9_undo_269 rfl rfl ?_
    refine R_aload_n (pc' := 271) dX9_undo_270 rfl i108.1 rfl ?_
    refine Q_getfr (v := 145) (J := 69) (pc' := 274) rfl dX9_undo_271 l_RX9_220 i108 fd9_69.1 fd9_69.2.1 fd9_69.2.2.1 fd9_69.2.2.2 f108_69 rfl ?_
    refine R_iload_n (pc' := 275) dX9_undo_274 rfl rfl ?_
    have hs3 := h.1
    have h := h.2
    refine Q_iaload (N := 8) (pc' := 276) rfl dX9_undo_275 i145 (by decide) hs3 rfl ?_
    have hs5 := h.1
    have h := h.2
    refine Q_iastore (N := 8) (pc' := 277) rfl dX9_undo_276 i134 (by decide) hs5  rfl (fun c4 hc4 => ?_)
    have h := h c4 hc4
    refine R_aload_n (pc' := 278) dX9_undo_277 rfl i108.1 rfl ?_
    refine Q_getfr (v := 135) (J := 49) (pc' := 281) rfl dX9_undo_278 l_RX9_159 i108 fd9_49.1 fd9_49.2.1 fd9_49.2.2.1 fd9_49.2.2.2 f108_49 rfl ?_
    refine R_iload_n (pc' := 282) dX9_undo_281 rfl rfl ?_
    refine R_aload_n (pc' := 283) dX9_undo_282 rfl i108.1 rfl ?_
    refine Q_getfr (v := 146) (J := 70) (pc' := 286) rfl dX9_undo_283 l_RX9_223 i108 fd9_70.1 fd9_70.2.1 fd9_70.2.2.1 fd9_70.2.2.2 f108_70 rfl ?_
    refine R_iload_n (pc' := 287) dX9_undo_286 rfl rfl ?_
    have hs6 := h.1
    have h := h.2
    refine Q_iaload (N := 8) (pc' := 288) rfl dX9_undo_287 i146 (by decide) hs6 rfl ?_
    have hs8 := h.1
    have h := h.2
    refine Q_iastore (N := 8) (pc' := 289) rfl dX9_undo_288 i135 (by decide) hs8  rfl (fun c7 hc7 => ?_)
    have h := h c7 hc7
    refine R_iinc (L' := [_, _]) (pc' := 292) dX9_undo_289 rfl (by decide) rfl rfl rfl ?_
    refine R_goto (tgt := 259) dX9_undo_292 (by decide) ?_
    exact WP_wk (wk_e (wk_e wk_n)) h
theorem e_X9_undo {K : SK} {d : Nat} {c : ct} {Q : ct → Int → Prop}  (h : WI K (d + 1) mX9_undo 0 [(2, 108), (9, 0)] [] c Q) : CI K (d + 1) mX9_undo [(2, 108)] c Q := CM_ofS (by decide) (Nat.le_of_ble_eq_true rfl) _ rfl h
set_option maxRecDepth 100000 in
theorem s_X9_body_0 {K : SK} {d : Nat} {c : ct} {Q : ct → Prop} (a1 : Int) (h : (ir (c 108 72)) ∧ (20 ≤ (c 108 72) → ∀ c3 : ct, c3 = up2 c 108 72 ((c 108 72) + 1) → Q c3) ∧ (¬ (20 ≤ (c 108 72)) → ((0 ≤ (c 108 72) ∧ (c 108 72) < 20)) ∧ ∀ c4 : ct, c4 = up2 c 148 (c 108 72) a1 → ∀ c6 : ct, c6 = up2 c4 108 72 ((c4 108 72) + 1) → Q c6)) : WV K (d + 1) mX9_body 0 [(2, 108), (0, a1)] [] c Q := by
  refine R_aload_n (pc' := 1) dX9_body_0 rfl i108.1 rfl ?_
  refine Q_getfi (J := 72) (pc' := 4) rfl dX9_body_1 l_RX9_229 i108 fd9_72.1 fd9_72.2.1 fd9_72.2.2.1 rfl ?_
  refine R_bipush (pc' := 6) dX9_body_4 (by decide) rfl ?_
  have hs2 := h.1
  have h := h.2
  refine R_icmp_ge (tgt := 19) (pc' := 9) dX9_body_6 (by decide) hs2 (ir_l (by decide) (by decide)) rfl (fun hc1 => ?_) (fun hc1 => ?_)
  · have h := h.1 hc1
    refine R_aload_n (pc' := 20) dX9_body_19 rfl i108.1 rfl ?_
    refine R_dup (pc' := 21) dX9_body_20 (by simp) rfl ?_
    refine Q_getfi (J := 72) (pc' := 24) rfl dX9_body_21 l_RX9_229 i108 fd9_72.1 fd9_72.2.1 fd9_72.2.2.1 rfl ?_
    refine R_iconst (pc' := 25) dX9_body_24 rfl ?_
    refine R_iadd (pc' := 26) dX9_body_25 rfl ?_
    refine Q_putfi (J := 72) (pc' := 29) rfl dX9_body_26 l_RX9_229 i108 fd9_72.1 fd9_72.2.1 fd9_72.2.2.2.1 fd9_72.2.2.2.2 rfl (fun c3 hc3 => ?_)
    have h := h c3 hc3
    exact Q_ret dX9_body_29 rfl h
  · have h := h.2 hc1
    refine R_aload_n (pc' := 10) dX9_body_9 rfl i108.1 rfl ?_
    refine Q_getfr (v := 148) (J := 73) (pc' := 13) rfl dX9_body_10 l_RX9_232 i108 fd9_73.1 fd9_73.2.1 fd9_73.2.2.1 fd9_73.2.2.2 f108_73 rfl ?_
    refine R_aload_n (pc' := 14) dX9_body_13 rfl i108.1 rfl ?_
    refine Q_getfi (J := 72) (pc' := 17) rfl dX9_body_14 l_RX9_229 i108 fd9_72.1 fd9_72.2.1 fd9_72.2.2.1 rfl ?_
    refine R_iload_n (pc' := 18) dX9_body_17 rfl rfl ?_
    have hs5 := h.1
    have h := h.2
    refine Q_iastore (N := 20) (pc' := 19) rfl dX9_body_18 i148 (by decide) hs5  rfl (fun c4 hc4 => ?_)
    have h := h c4 hc4
    refine R_aload_n (pc' := 20) dX9_body_19 rfl i108.1 rfl ?_
    refine R_dup (pc' := 21) dX9_body_20 (by simp) rfl ?_
    refine Q_getfi (J := 72) (pc' := 24) rfl dX9_body_21 l_RX9_229 i108 fd9_72.1 fd9_72.2.1 fd9_72.2.2.1 rfl ?_
    refine R_iconst (pc' := 25) dX9_body_24 rfl ?_
    refine R_iadd (pc' := 26) dX9_body_25 rfl ?_
    refine Q_putfi (J := 72) (pc' := 29) rfl dX9_body_26 l_RX9_229 i108 fd9_72.1 fd9_72.2.1 fd9_72.2.2.2.1 fd9_72.2.2.2.2 rfl (fun c6 hc6 => ?_)
    have h := h c6 hc6
    exact Q_ret dX9_body_29 rfl h
theorem e_X9_body {K : SK} {d : Nat} {c : ct} {Q : ct → Prop} (a1 : Int) (h : WV K (d + 1) mX9_body 0 [(2, 108), (0, a1)] [] c Q) : CV K (d + 1) mX9_body [(2, 108), (0, a1)] c Q := CM_ofS (by decide) (Nat.le_of_ble_eq_true rfl) _ rfl h
set_option maxRecDepth 100000 in
theorem s_X9_guestSips_0 {K : SK} {d : Nat} {c : ct} {Q : ct → Int → Prop} (a1 : Int) (a2 : Int) (h : CV K d mX9_body [(2, 108), (0, 10)] c (fun c1 => Q c1 (a2 + a1))) : WI K (d + 1) mX9_guestSips 0 [(2, 108), (0, a1), (0, a2)] [] c Q := by
  refine R_aload_n (pc' := 1) dX9_guestSips_0 rfl i108.1 rfl ?_
  refine R_bipush (pc' := 3) dX9_guestSips_1 (by decide) rfl ?_
  refine Q_callVV (vs := [(0, 10)]) (st := []) (pc' := 6) dX9_guestSips_3 l_RX9_436 i108 (by decide) rfl rfl (Nat.le_of_ble_eq_true rfl) rfl (Nat.zero_le _) (Nat.zero_le _) rfl ?_
  refine CV.mono h (fun c1 h => ?_)
  refine R_iload_n (pc' := 7) dX9_guestSips_6 rfl rfl ?_
  refine R_iload_n (pc' := 8) dX9_guestSips_7 rfl rfl ?_
  refine R_iadd (pc' := 9) dX9_guestSips_8 rfl ?_
  exact Q_iret dX9_guestSips_9 rfl h
theorem e_X9_guestSips {K : SK} {d : Nat} {c : ct} {Q : ct → Int → Prop} (a1 : Int) (a2 : Int) (h : WI K (d + 1) mX9_guestSips 0 [(2, 108), (0, a1), (0, a2)] [] c Q) : CI K (d + 1) mX9_guestSips [(2, 108), (0, a1), (0, a2)] c Q := CM_ofS (by decide) (Nat.le_of_ble_eq_true rfl) _ rfl h
set_option maxRecDepth 100000 in
theorem s_X9_sipsAct_0 {K : SK} {d : Nat} {c : ct} {Q : ct → Int → Prop} (a1 : Int) (a2 : Int) (h : ((0 ≤ a1 ∧ a1 < 6)) ∧ ir (c 109 a1) ∧ ((c 109 a1) = 2 → CV K d mX9_body [(2, 108), (0, 30)] c (fun c3 => CI K d mX9_guestSips [(2, 108), (0, a1), (0, (a2 * 3))] c3 (fun c5 r6 => Q c5 r6))) ∧ ((c 109 a1) = 3 → CI K d mX9_guestSips [(2, 108), (0, a1), (0, a2)] c (fun c8 r9 => Q c8 r9)) ∧ ((c 109 a1) = 4 → CV K d mX9_body [(2, 108), (0, 50)] c (fun c11 => CI K d mX9_guestSips [(2, 108), (0, a1), (0, a2)] c11 (fun c13 r14 => Q c13 (-r14)))) ∧ ((c 109 a1) = 5 → CV K d mX9_body [(2, 108), (0, 30)] c (fun c16 => CI K d mX9_guestSips [(2, 108), (0, a1), (0, (a2 * 3))] c16 (fun c18 r19 => Q c18 r19))) ∧ ((c 109 a1) = 6 → CV K d mX9_body [(2, 108), (0, 71)] c (fun c21 => CI K d mX9_guestSips [(2, 108), (0, a1), (0, a2)] c21 (fun c23 r24 => ((0 ≤ a1 ∧ a1 < 6)) ∧ Q c23 (bXor r24 (c23 110 a1))))) ∧ (((c 109 a1) < 2 ∨ 6 < (c 109 a1)) → CI K d mX9_guestSips [(2, 108), (0, a1), (0, a2)] c (fun c26 r27 => Q c26 r27))) : WI K (d + 1) mX9_sipsAct 0 [(2, 108), (0, a1), (0, a2)] [] c Q := by
  refine R_aload_n (pc' := 1) dX9_sipsAct_0 rfl i108.1 rfl ?_
  refine Q_getfr (v := 109) (J := 5) (pc' := 4) rfl dX9_sipsAct_1 l_RX9_25 i108 fd9_5.1 fd9_5.2.1 fd9_5.2.2.1 fd9_5.2.2.2 f108_5 rfl ?_
  refine R_iload_n (pc' := 5) dX9_sipsAct_4 rfl rfl ?_
  have hs1 := h.1
  have h := h.2
  refine Q_iaload (N := 6) (pc' := 6) rfl dX9_sipsAct_5 i109 (by decide) hs1 rfl ?_
  have hs0 := h.1
  have h := h.2
  rcases (show (c 109 a1) = 2 ∨ (c 109 a1) = 3 ∨ (c 109 a1) = 4 ∨ (c 109 a1) = 5 ∨ (c 109 a1) = 6 ∨ ((c 109 a1) < 2 ∨ 6 < (c 109 a1)) by omega) with hk | hk | hk | hk | hk | hk
  · have h := h.1 hk
    refine R_tableAt (tgt := 40) 2 hk dX9_sipsAct_6 (ir_l (by decide) (by decide)) (by decide) rfl (by decide) ?_
    refine R_aload_n (pc' := 41) dX9_sipsAct_40 rfl i108.1 rfl ?_
    refine R_bipush (pc' := 43) dX9_sipsAct_41 (by decide) rfl ?_
    refine Q_callVV (vs := [(0, 30)]) (st := []) (pc' := 46) dX9_sipsAct_43 l_RX9_436 i108 (by decide) rfl rfl (Nat.le_of_ble_eq_true rfl) rfl (Nat.zero_le _) (Nat.zero_le _) rfl ?_
    refine CV.mono h (fun c3 h => ?_)
    refine R_aload_n (pc' := 47) dX9_sipsAct_46 rfl i108.1 rfl ?_
    refine R_iload_n (pc' := 48) dX9_sipsAct_47 rfl rfl ?_
    refine R_iload_n (pc' := 49) dX9_sipsAct_48 rfl rfl ?_
    refine R_iconst (pc' := 50) dX9_sipsAct_49 rfl ?_
    refine R_imul (pc' := 51) dX9_sipsAct_50 rfl ?_
    refine Q_callVI (vs := [(0, a1), (0, (a2 * 3))]) (st := []) (pc' := 54) dX9_sipsAct_51 l_RX9_439 i108 (by decide) rfl rfl (Nat.le_of_ble_eq_true rfl) rfl (Nat.zero_le _) (Nat.zero_le _) rfl ?_
    refine CI.mono h (fun c5 r6 h => ?_)
    exact Q_iret dX9_sipsAct_54 rfl h
  · have h := h.2.1 hk
    refine R_tableAt (tgt := 89) 3 hk dX9_sipsAct_6 (ir_l (by decide) (by decide)) (by decide) rfl (by decide) ?_
    refine R_aload_n (pc' := 90) dX9_sipsAct_89 rfl i108.1 rfl ?_
    refine R_iload_n (pc' := 91) dX9_sipsAct_90 rfl rfl ?_
    refine R_iload_n (pc' := 92) dX9_sipsAct_91 rfl rfl ?_
    refine Q_callVI (vs := [(0, a1), (0, a2)]) (st := []) (pc' := 95) dX9_sipsAct_92 l_RX9_439 i108 (by decide) rfl rfl (Nat.le_of_ble_eq_true rfl) rfl (Nat.zero_le _) (Nat.zero_le _) rfl ?_
    refine CI.mono h (fun c8 r9 h => ?_)
    exact Q_iret dX9_sipsAct_95 rfl h
  · have h := h.2.2.1 hk
    refine R_tableAt (tgt := 55) 4 hk dX9_sipsAct_6 (ir_l (by decide) (by decide)) (by decide) rfl (by decide) ?_
    refine R_aload_n (pc' := 56) dX9_sipsAct_55 rfl i108.1 rfl ?_
    refine R_bipush (pc' := 58) dX9_sipsAct_56 (by decide) rfl ?_
    refine Q_callVV (vs := [(0, 50)]) (st := []) (pc' := 61) dX9_sipsAct_58 l_RX9_436 i108 (by decide) rfl rfl (Nat.le_of_ble_eq_true rfl) rfl (Nat.zero_le _) (Nat.zero_le _) rfl ?_
    refine CV.mono h (fun c11 h => ?_)
    refine R_aload_n (pc' := 62) dX9_sipsAct_61 rfl i108.1 rfl ?_
    refine R_iload_n (pc' := 63) dX9_sipsAct_62 rfl rfl ?_
    refine R_iload_n (pc' := 64) dX9_sipsAct_63 rfl rfl ?_
    refine Q_callVI (vs := [(0, a1), (0, a2)]) (st := []) (pc' := 67) dX9_sipsAct_64 l_RX9_439 i108 (by decide) rfl rfl (Nat.le_of_ble_eq_true rfl) rfl (Nat.zero_le _) (Nat.zero_le _) rfl ?_
    refine CI.mono h (fun c13 r14 h => ?_)
    refine R_ineg (pc' := 68) dX9_sipsAct_67 rfl ?_
    exact Q_iret dX9_sipsAct_68 rfl h
  · have h := h.2.2.2.1 hk
    refine R_tableAt (tgt := 40) 5 hk dX9_sipsAct_6 (ir_l (by decide) (by decide)) (by decide) rfl (by decide) ?_
    refine R_aload_n (pc' := 41) dX9_sipsAct_40 rfl i108.1 rfl ?_
    refine R_bipush (pc' := 43) dX9_sipsAct_41 (by decide) rfl ?_
    refine Q_callVV (vs := [(0, 30)]) (st := []) (pc' := 46) dX9_sipsAct_43 l_RX9_436 i108 (by decide) rfl rfl (Nat.le_of_ble_eq_true rfl) rfl (Nat.zero_le _) (Nat.zero_le _) rfl ?_
    refine CV.mono h (fun c16 h => ?_)
    refine R_aload_n (pc' := 47) dX9_sipsAct_46 rfl i108.1 rfl ?_
    refine R_iload_n (pc' := 48) dX9_sipsAct_47 rfl rfl ?_
    refine R_iload_n (pc' := 49) dX9_sipsAct_48 rfl rfl ?_
    refine R_iconst (pc' := 50) dX9_sipsAct_49 rfl ?_
    refine R_imul (pc' := 51) dX9_sipsAct_50 rfl ?_
    refine Q_callVI (vs := [(0, a1), (0, (a2 * 3))]) (st := []) (pc' := 54) dX9_sipsAct_51 l_RX9_439 i108 (by decide) rfl rfl (Nat.le_of_ble_eq_true rfl) rfl (Nat.zero_le _) (Nat.zero_le _) rfl ?_
    refine CI.mono h (fun c18 r19 h => ?_)
    exact Q_iret dX9_sipsAct_54 rfl h
  · have h := h.2.2.2.2.1 hk
    refine R_tableAt (tgt := 69) 6 hk dX9_sipsAct_6 (ir_l (by decide) (by decide)) (by decide) rfl (by decide) ?_
    refine R_aload_n (pc' := 70) dX9_sipsAct_69 rfl i108.1 rfl ?_
    refine R_bipush (pc' := 72) dX9_sipsAct_70 (by decide) rfl ?_
    refine Q_callVV (vs := [(0, 71)]) (st := []) (pc' := 75) dX9_sipsAct_72 l_RX9_436 i108 (by decide) rfl rfl (Nat.le_of_ble_eq_true rfl) rfl (Nat.zero_le _) (Nat.zero_le _) rfl ?_
    refine CV.mono h (fun c21 h => ?_)
    refine R_aload_n (pc' := 76) dX9_sipsAct_75 rfl i108.1 rfl ?_
    refine R_iload_n (pc' := 77) dX9_sipsAct_76 rfl rfl ?_
    refine R_iload_n (pc' := 78) dX9_sipsAct_77 rfl rfl ?_
    refine Q_callVI (vs := [(0, a1), (0, a2)]) (st := []) (pc' := 81) dX9_sipsAct_78 l_RX9_439 i108 (by decide) rfl rfl (Nat.le_of_ble_eq_true rfl) rfl (Nat.zero_le _) (Nat.zero_le _) rfl ?_
    refine CI.mono h (fun c23 r24 h => ?_)
    refine R_aload_n (pc' := 82) dX9_sipsAct_81 rfl i108.1 rfl ?_
    refine Q_getfr (v := 110) (J := 6) (pc' := 85) rfl dX9_sipsAct_82 l_RX9_29 i108 fd9_6.1 fd9_6.2.1 fd9_6.2.2.1 fd9_6.2.2.2 f108_6 rfl ?_
    refine R_iload_n (pc' := 86) dX9_sipsAct_85 rfl rfl ?_
    have hs25 := h.1
    have h := h.2
    refine Q_iaload (N := 6) (pc' := 87) rfl dX9_sipsAct_86 i110 (by decide) hs25 rfl ?_
    refine R_ixor (pc' := 88) dX9_sipsAct_87 rfl ?_
    exact Q_iret dX9_sipsAct_88 rfl h
  · have h := h.2.2.2.2.2 hk
    refine R_tableOut (tgt := 89) dX9_sipsAct_6 hs0 hk (by decide) ?_
    refine R_aload_n (pc' := 90) dX9_sipsAct_89 rfl i108.1 rfl ?_
    refine R_iload_n (pc' := 91) dX9_sipsAct_90 rfl rfl ?_
    refine R_iload_n (pc' := 92) dX9_sipsAct_91 rfl rfl ?_
    refine Q_callVI (vs := [(0, a1), (0, a2)]) (st := []) (pc' := 95) dX9_sipsAct_92 l_RX9_439 i108 (by decide) rfl rfl (Nat.le_of_ble_eq_true rfl) rfl (Nat.zero_le _) (Nat.zero_le _) rfl ?_
    refine CI.mono h (fun c26 r27 h => ?_)
    exact Q_iret dX9_sipsAct_95 rfl h
theorem e_X9_sipsAct {K : SK} {d : Nat} {c : ct} {Q : ct → Int → Prop} (a1 : Int) (a2 : Int) (h : WI K (d + 1) mX9_sipsAct 0 [(2, 108), (0, a1), (0, a2)] [] c Q) : CI K (d + 1) mX9_sipsAct [(2, 108), (0, a1), (0, a2)] c Q := CM_ofS (by decide) (Nat.le_of_ble_eq_true rfl) _ rfl h
set_option maxRecDepth 100000 in
theorem s_X9_guestChats_0 {K : SK} {d : Nat} {c : ct} {Q : ct → Int → Prop} (a1 : Int) (a2 : Int) (h : CV K d mX9_body [(2, 108), (0, 11)] c (fun c1 => CI K d mX9_sipsAct [(2, 108), (0, a1), (0, a2)] c1 (fun c3 r4 => ((0 ≤ a1 ∧ a1 < 6)) ∧ Q c3 (r4 - (c3 110 a1))))) : WI K (d + 1) mX9_guestChats 0 [(2, 108), (0, a1), (0, a2)] [] c Q := by
  refine R_aload_n (pc' := 1) dX9_guestChats_0 rfl i108.1 rfl ?_
  refine R_bipush (pc' := 3) dX9_guestChats_1 (by decide) rfl ?_
  refine Q_callVV (vs := [(0, 11)]) (st := []) (pc' := 6) dX9_guestChats_3 l_RX9_436 i108 (by decide) rfl rfl (Nat.le_of_ble_eq_true rfl) rfl (Nat.zero_le _) (Nat.zero_le _) rfl ?_
  refine CV.mono h (fun c1 h => ?_)
  refine R_aload_n (pc' := 7) dX9_guestChats_6 rfl i108.1 rfl ?_
  refine R_iload_n (pc' := 8) dX9_guestChats_7 rfl rfl ?_
  refine R_iload_n (pc' := 9) dX9_guestChats_8 rfl rfl ?_
  refine Q_callVI (vs := [(0, a1), (0, a2)]) (st := []) (pc' := 12) dX9_guestChats_9 l_RX9_442 i108 (by decide) rfl rfl (Nat.le_of_ble_eq_true rfl) rfl (Nat.zero_le _) (Nat.zero_le _) rfl ?_
  refine CI.mono h (fun c3 r4 h => ?_)
  refine R_aload_n (pc' := 13) dX9_guestChats_12 rfl i108.1 rfl ?_
  refine Q_getfr (v := 110) (J := 6) (pc' := 16) rfl dX9_guestChats_13 l_RX9_29 i108 fd9_6.1 fd9_6.2.1 fd9_6.2.2.1 fd9_6.2.2.2 f108_6 rfl ?_
  refine R_iload_n (pc' := 17) dX9_guestChats_16 rfl rfl ?_
  have hs5 := h.1
  have h := h.2
  refine Q_iaload (N := 6) (pc' := 18) rfl dX9_guestChats_17 i110 (by decide) hs5 rfl ?_
  refine R_isub (pc' := 19) dX9_guestChats_18 rfl ?_
  exact Q_iret dX9_guestChats_19 rfl h
theorem e_X9_guestChats {K : SK} {d : Nat} {c : ct} {Q : ct → Int → Prop} (a1 : Int) (a2 : Int) (h : WI K (d + 1) mX9_guestChats 0 [(2, 108), (0, a1), (0, a2)] [] c Q) : CI K (d + 1) mX9_guestChats [(2, 108), (0, a1), (0, a2)] c Q := CM_ofS (by decide) (Nat.le_of_ble_eq_true rfl) _ rfl h
set_option maxRecDepth 100000 in
theorem s_X9_wouldChats_0 {K : SK} {d : Nat} {c : ct} {Q : ct → Int → Prop} (a1 : Int) (a2 : Int) (h : CV K d mX9_body [(2, 108), (0, 20)] c (fun c1 => CI K d mX9_guestChats [(2, 108), (0, a1), (0, a2)] c1 (fun c3 r4 => Q c3 (bXor r4 6)))) : WI K (d + 1) mX9_wouldChats 0 [(2, 108), (0, a1), (0, a2)] [] c Q := by
  refine R_aload_n (pc' := 1) dX9_wouldChats_0 rfl i108.1 rfl ?_
  refine R_bipush (pc' := 3) dX9_wouldChats_1 (by decide) rfl ?_
  refine Q_callVV (vs := [(0, 20)]) (st := []) (pc' := 6) dX9_wouldChats_3 l_RX9_436 i108 (by decide) rfl rfl (Nat.le_of_ble_eq_true rfl) rfl (Nat.zero_le _) (Nat.zero_le _) rfl ?_
  refine CV.mono h (fun c1 h => ?_)
  refine R_aload_n (pc' := 7) dX9_wouldChats_6 rfl i108.1 rfl ?_
  refine R_iload_n (pc' := 8) dX9_wouldChats_7 rfl rfl ?_
  refine R_iload_n (pc' := 9) dX9_wouldChats_8 rfl rfl ?_
  refine Q_callVI (vs := [(0, a1), (0, a2)]) (st := []) (pc' := 12) dX9_wouldChats_9 l_RX9_445 i108 (by decide) rfl rfl (Nat.le_of_ble_eq_true rfl) rfl (Nat.zero_le _) (Nat.zero_le _) rfl ?_
  refine CI.mono h (fun c3 r4 h => ?_)
  refine R_bipush (pc' := 14) dX9_wouldChats_12 (by decide) rfl ?_
  refine R_ixor (pc' := 15) dX9_wouldChats_14 rfl ?_
  exact Q_iret dX9_wouldChats_15 rfl h
theorem e_X9_wouldChats {K : SK} {d : Nat} {c : ct} {Q : ct → Int → Prop} (a1 : Int) (a2 : Int) (h : WI K (d + 1) mX9_wouldChats 0 [(2, 108), (0, a1), (0, a2)] [] c Q) : CI K (d + 1) mX9_wouldChats [(2, 108), (0, a1), (0, a2)] c Q := CM_ofS (by decide) (Nat.le_of_ble_eq_true rfl) _ rfl h
set_option maxRecDepth 100000 in
theorem s_X9_chatsAct_0 {K : SK} {d : Nat} {c : ct} {Q : ct → Int → Prop} (a1 : Int) (a2 : Int) (h : ((0 ≤ a1 ∧ a1 < 6)) ∧ ir (c 109 a1) ∧ ((c 109 a1) = 1 → CI K d mX9_wouldChats [(2, 108), (0, a1), (0, a2)] c (fun c3 r4 => Q c3 r4)) ∧ ((c 109 a1) = 4 → CV K d mX9_body [(2, 108), (0, 51)] c (fun c6 => CI K d mX9_wouldChats [(2, 108), (0, a1), (0, (a2 + 1))] c6 (fun c8 r9 => Q c8 r9))) ∧ ((c 109 a1) = 6 → CV K d mX9_body [(2, 108), (0, 70)] c (fun c11 => CI K d mX9_guestChats [(2, 108), (0, a1), (0, a2)] c11 (fun c13 r14 => CI K d mX9_guestSips [(2, 108), (0, a1), (0, 2)] c13 (fun c15 r16 => Q c15 (r14 + r16))))) ∧ ((¬ (c 109 a1) = 1 ∧ ¬ (c 109 a1) = 4 ∧ ¬ (c 109 a1) = 6) → CI K d mX9_guestChats [(2, 108), (0, a1), (0, a2)] c (fun c17 r18 => Q c17 r18))) : WI K (d + 1) mX9_chatsAct 0 [(2, 108), (0, a1), (0, a2), (9, 0)] [] c Q := by
  refine R_aload_n (pc' := 1) dX9_chatsAct_0 rfl i108.1 rfl ?_
  refine Q_getfr (v := 109) (J := 5) (pc' := 4) rfl dX9_chatsAct_1 l_RX9_25 i108 fd9_5.1 fd9_5.2.1 fd9_5.2.2.1 fd9_5.2.2.2 f108_5 rfl ?_
  refine R_iload_n (pc' := 5) dX9_chatsAct_4 rfl rfl ?_
  have hs1 := h.1
  have h := h.2
  refine Q_iaload (N := 6) (pc' := 6) rfl dX9_chatsAct_5 i109 (by decide) hs1 rfl ?_
  have hs0 := h.1
  have h := h.2
  rcases (show (c 109 a1) = 1 ∨ (c 109 a1) = 4 ∨ (c 109 a1) = 6 ∨ (¬ (c 109 a1) = 1 ∧ ¬ (c 109 a1) = 4 ∧ ¬ (c 109 a1) = 6) by omega) with hk | hk | hk | hk
  · have h := h.1 hk
    refine R_look (tgt := 40) (off := 34) dX9_chatsAct_6 (by decide) (by rw [hk]; exact ir_l (by decide) (by decide)) (by rw [hk]; first | done | decide) (by decide) ?_
    refine R_aload_n (pc' := 41) dX9_chatsAct_40 rfl i108.1 rfl ?_
    refine R_iload_n (pc' := 42) dX9_chatsAct_41 rfl rfl ?_
    refine R_iload_n (pc' := 43) dX9_chatsAct_42 rfl rfl ?_
    refine Q_callVI (vs := [(0, a1), (0, a2)]) (st := []) (pc' := 46) dX9_chatsAct_43 l_RX9_448 i108 (by decide) rfl rfl (Nat.le_of_ble_eq_true rfl) rfl (Nat.zero_le _) (Nat.zero_le _) rfl ?_
    refine CI.mono h (fun c3 r4 h => ?_)
    exact Q_iret dX9_chatsAct_46 rfl h
  · have h := h.2.1 hk
    refine R_look (tgt := 47) (off := 41) dX9_chatsAct_6 (by decide) (by rw [hk]; exact ir_l (by decide) (by decide)) (by rw [hk]; first | done | decide) (by decide) ?_
    refine R_aload_n (pc' := 48) dX9_chatsAct_47 rfl i108.1 rfl ?_
    refine R_bipush (pc' := 50) dX9_chatsAct_48 (by decide) rfl ?_
    refine Q_callVV (vs := [(0, 51)]) (st := []) (pc' := 53) dX9_chatsAct_50 l_RX9_436 i108 (by decide) rfl rfl (Nat.le_of_ble_eq_true rfl) rfl (Nat.zero_le _) (Nat.zero_le _) rfl ?_
    refine CV.mono h (fun c6 h => ?_)
    refine R_aload_n (pc' := 54) dX9_chatsAct_53 rfl i108.1 rfl ?_
    refine R_iload_n (pc' := 55) dX9_chatsAct_54 rfl rfl ?_
    refine R_iload_n (pc' := 56) dX9_chatsAct_55 rfl rfl ?_
    refine R_iconst (pc' := 57) dX9_chatsAct_56 rfl ?_
    refine R_iadd (pc' := 58) dX9_chatsAct_57 rfl ?_
    refine Q_callVI (vs := [(0, a1), (0, (a2 + 1))]) (st := []) (pc' := 61) dX9_chatsAct_58 l_RX9_448 i108 (by decide) rfl rfl (Nat.le_of_ble_eq_true rfl) rfl (Nat.zero_le _) (Nat.zero_le _) rfl ?_
    refine CI.mono h (fun c8 r9 h => ?_)
    exact Q_iret dX9_chatsAct_61 rfl h
  · have h := h.2.2.1 hk
    refine R_look (tgt := 62) (off := 56) dX9_chatsAct_6 (by decide) (by rw [hk]; exact ir_l (by decide) (by decide)) (by rw [hk]; first | done | decide) (by decide) ?_
    refine R_aload_n (pc' := 63) dX9_chatsAct_62 rfl i108.1 rfl ?_
    refine R_bipush (pc' := 65) dX9_chatsAct_63 (by decide) rfl ?_
    refine Q_callVV (vs := [(0, 70)]) (st := []) (pc' := 68) dX9_chatsAct_65 l_RX9_436 i108 (by decide) rfl rfl (Nat.le_of_ble_eq_true rfl) rfl (Nat.zero_le _) (Nat.zero_le _) rfl ?_
    refine CV.mono h (fun c11 h => ?_)
    refine R_aload_n (pc' := 69) dX9_chatsAct_68 rfl i108.1 rfl ?_
    refine R_iload_n (pc' := 70) dX9_chatsAct_69 rfl rfl ?_
    refine R_iload_n (pc' := 71) dX9_chatsAct_70 rfl rfl ?_
    refine Q_callVI (vs := [(0, a1), (0, a2)]) (st := []) (pc' := 74) dX9_chatsAct_71 l_RX9_445 i108 (by decide) rfl rfl (Nat.le_of_ble_eq_true rfl) rfl (Nat.zero_le _) (Nat.zero_le _) rfl ?_
    refine CI.mono h (fun c13 r14 h => ?_)
    refine R_istore_n (L' := [_, _, _, _]) (pc' := 75) dX9_chatsAct_74 (by decide) rfl rfl rfl ?_
    refine R_iload_n (pc' := 76) dX9_chatsAct_75 rfl rfl ?_
    refine R_aload_n (pc' := 77) dX9_chatsAct_76 rfl i108.1 rfl ?_
    refine R_iload_n (pc' := 78) dX9_chatsAct_77 rfl rfl ?_
    refine R_iconst (pc' := 79) dX9_chatsAct_78 rfl ?_
    refine Q_callVI (vs := [(0, a1), (0, 2)]) (st := [(0, r14)]) (pc' := 82) dX9_chatsAct_79 l_RX9_439 i108 (by decide) rfl rfl (Nat.le_of_ble_eq_true rfl) rfl (Nat.zero_le _) (Nat.zero_le _) rfl ?_
    refine CI.mono h (fun c15 r16 h => ?_)
    refine R_iadd (pc' := 83) dX9_chatsAct_82 rfl ?_
    exact Q_iret dX9_chatsAct_83 rfl h
  · have h := h.2.2.2 hk
    refine R_look (tgt := 84) (off := 78) dX9_chatsAct_6 (by decide) hs0 (by rw [Op.lookupswitch.offset_cons, if_neg (fun q => hk.1 q.symm), Op.lookupswitch.offset_cons, if_neg (fun q => hk.2.1 q.symm), Op.lookupswitch.offset_cons, if_neg (fun q => hk.2.2 q.symm)]; first | done | rfl) (by decide) ?_
    refine R_aload_n (pc' := 85) dX9_chatsAct_84 rfl i108.1 rfl ?_
    refine R_iload_n (pc' := 86) dX9_chatsAct_85 rfl rfl ?_
    refine R_iload_n (pc' := 87) dX9_chatsAct_86 rfl rfl ?_
    refine Q_callVI (vs := [(0, a1), (0, a2)]) (st := []) (pc' := 90) dX9_chatsAct_87 l_RX9_445 i108 (by decide) rfl rfl (Nat.le_of_ble_eq_true rfl) rfl (Nat.zero_le _) (Nat.zero_le _) rfl ?_
    refine CI.mono h (fun c17 r18 h => ?_)
    exact Q_iret dX9_chatsAct_90 rfl h
theorem e_X9_chatsAct {K : SK} {d : Nat} {c : ct} {Q : ct → Int → Prop} (a1 : Int) (a2 : Int) (h : WI K (d + 1) mX9_chatsAct 0 [(2, 108), (0, a1), (0, a2), (9, 0)] [] c Q) : CI K (d + 1) mX9_chatsAct [(2, 108), (0, a1), (0, a2)] c Q := CM_ofS (by decide) (Nat.le_of_ble_eq_true rfl) _ rfl h
set_option maxRecDepth 100000 in
theorem s_X9_guestTells_0 {K : SK} {d : Nat} {c : ct} {Q : ct → Int → Prop} (a1 : Int) (a2 : Int) (h : CV K d mX9_body [(2, 108), (0, 12)] c (fun c1 => CI K d mX9_chatsAct [(2, 108), (0, a1), (0, a2)] c1 (fun c3 r4 => Q c3 (r4 * 2)))) : WI K (d + 1) mX9_guestTells 0 [(2, 108), (0, a1), (0, a2)] [] c Q := by
  refine R_aload_n (pc' := 1) dX9_guestTells_0 rfl i108.1 rfl ?_
  refine R_bipush (pc' := 3) dX9_guestTells_1 (by decide) rfl ?_
  refine Q_callVV (vs := [(0, 12)]) (st := []) (pc' := 6) dX9_guestTells_3 l_RX9_436 i108 (by decide) rfl rfl (Nat.le_of_ble_eq_true rfl) rfl (Nat.zero_le _) (Nat.zero_le _) rfl ?_
  refine CV.mono h (fun c1 h => ?_)
  refine R_aload_n (pc' := 7) dX9_guestTells_6 rfl i108.1 rfl ?_
  refine R_iload_n (pc' := 8) dX9_guestTells_7 rfl rfl ?_
  refine R_iload_n (pc' := 9) dX9_guestTells_8 rfl rfl ?_
  refine Q_callVI (vs := [(0, a1), (0, a2)]) (st := []) (pc' := 12) dX9_guestTells_9 l_RX9_451 i108 (by decide) rfl rfl (Nat.le_of_ble_eq_true rfl) rfl (Nat.zero_le _) (Nat.zero_le _) rfl ?_
  refine CI.mono h (fun c3 r4 h => ?_)
  refine R_iconst (pc' := 13) dX9_guestTells_12 rfl ?_
  refine R_imul (pc' := 14) dX9_guestTells_13 rfl ?_
  exact Q_iret dX9_guestTells_14 rfl h
theorem e_X9_guestTells {K : SK} {d : Nat} {c : ct} {Q : ct → Int → Prop} (a1 : Int) (a2 : Int) (h : WI K (d + 1) mX9_guestTells 0 [(2, 108), (0, a1), (0, a2)] [] c Q) : CI K (d + 1) mX9_guestTells [(2, 108), (0, a1), (0, a2)] c Q := CM_ofS (by decide) (Nat.le_of_ble_eq_true rfl) _ rfl h
set_option maxRecDepth 100000 in
theorem s_X9_tellsAct_0 {K : SK} {d : Nat} {c : ct} {Q : ct → Int → Prop} (a1 : Int) (a2 : Int) (h : ((0 ≤ a1 ∧ a1 < 6)) ∧ ir (c 109 a1) ∧ ((c 109 a1) = 3 → CV K d mX9_body [(2, 108), (0, 40)] c (fun c3 => CI K d mX9_guestTells [(2, 108), (0, a1), (0, a2)] c3 (fun c5 r6 => CI K d mX9_chatsAct [(2, 108), (0, a1), (0, 1)] c5 (fun c7 r8 => Q c7 (r6 + r8))))) ∧ ((c 109 a1) = 4 → CI K d mX9_guestTells [(2, 108), (0, a1), (0, a2)] c (fun c10 r11 => Q c10 r11)) ∧ ((c 109 a1) = 5 → CV K d mX9_body [(2, 108), (0, 60)] c (fun c13 => CI K d mX9_guestTells [(2, 108), (0, a1), (0, (a2 - a1))] c13 (fun c15 r16 => Q c15 r16))) ∧ ((c 109 a1) = 6 → CV K d mX9_body [(2, 108), (0, 40)] c (fun c18 => CI K d mX9_guestTells [(2, 108), (0, a1), (0, a2)] c18 (fun c20 r21 => CI K d mX9_chatsAct [(2, 108), (0, a1), (0, 1)] c20 (fun c22 r23 => Q c22 (r21 + r23))))) ∧ (((c 109 a1) < 3 ∨ 6 < (c 109 a1)) → CI K d mX9_guestTells [(2, 108), (0, a1), (0, a2)] c (fun c24 r25 => Q c24 r25))) : WI K (d + 1) mX9_tellsAct 0 [(2, 108), (0, a1), (0, a2), (9, 0)] [] c Q := by
  refine R_aload_n (pc' := 1) dX9_tellsAct_0 rfl i108.1 rfl ?_
  refine Q_getfr (v := 109) (J := 5) (pc' := 4) rfl dX9_tellsAct_1 l_RX9_25 i108 fd9_5.1 fd9_5.2.1 fd9_5.2.2.1 fd9_5.2.2.2 f108_5 rfl ?_
  refine R_iload_n (pc' := 5) dX9_tellsAct_4 rfl rfl ?_
  have hs1 := h.1
  have h := h.2
  refine Q_iaload (N := 6) (pc' := 6) rfl dX9_tellsAct_5 i109 (by decide) hs1 rfl ?_
  have hs0 := h.1
  have h := h.2
  rcases (show (c 109 a1) = 3 ∨ (c 109 a1) = 4 ∨ (c 109 a1) = 5 ∨ (c 109 a1) = 6 ∨ ((c 109 a1) < 3 ∨ 6 < (c 109 a1)) by omega) with hk | hk | hk | hk | hk
  · have h := h.1 hk
    refine R_tableAt (tgt := 36) 3 hk dX9_tellsAct_6 (ir_l (by decide) (by decide)) (by decide) rfl (by decide) ?_
    refine R_aload_n (pc' := 37) dX9_tellsAct_36 rfl i108.1 rfl ?_
    refine R_bipush (pc' := 39) dX9_tellsAct_37 (by decide) rfl ?_
    refine Q_callVV (vs := [(0, 40)]) (st := []) (pc' := 42) dX9_tellsAct_39 l_RX9_436 i108 (by decide) rfl rfl (Nat.le_of_ble_eq_true rfl) rfl (Nat.zero_le _) (Nat.zero_le _) rfl ?_
    refine CV.mono h (fun c3 h => ?_)
    refine R_aload_n (pc' := 43) dX9_tellsAct_42 rfl i108.1 rfl ?_
    refine R_iload_n (pc' := 44) dX9_tellsAct_43 rfl rfl ?_
    refine R_iload_n (pc' := 45) dX9_tellsAct_44 rfl rfl ?_
    refine Q_callVI (vs := [(0, a1), (0, a2)]) (st := []) (pc' := 48) dX9_tellsAct_45 l_RX9_454 i108 (by decide) rfl rfl (Nat.le_of_ble_eq_true rfl) rfl (Nat.zero_le _) (Nat.zero_le _) rfl ?_
    refine CI.mono h (fun c5 r6 h => ?_)
    refine R_istore_n (L' := [_, _, _, _]) (pc' := 49) dX9_tellsAct_48 (by decide) rfl rfl rfl ?_
    refine R_iload_n (pc' := 50) dX9_tellsAct_49 rfl rfl ?_
    refine R_aload_n (pc' := 51) dX9_tellsAct_50 rfl i108.1 rfl ?_
    refine R_iload_n (pc' := 52) dX9_tellsAct_51 rfl rfl ?_
    refine R_iconst (pc' := 53) dX9_tellsAct_52 rfl ?_
    refine Q_callVI (vs := [(0, a1), (0, 1)]) (st := [(0, r6)]) (pc' := 56) dX9_tellsAct_53 l_RX9_451 i108 (by decide) rfl rfl (Nat.le_of_ble_eq_true rfl) rfl (Nat.zero_le _) (Nat.zero_le _) rfl ?_
    refine CI.mono h (fun c7 r8 h => ?_)
    refine R_iadd (pc' := 57) dX9_tellsAct_56 rfl ?_
    exact Q_iret dX9_tellsAct_57 rfl h
  · have h := h.2.1 hk
    refine R_tableAt (tgt := 73) 4 hk dX9_tellsAct_6 (ir_l (by decide) (by decide)) (by decide) rfl (by decide) ?_
    refine R_aload_n (pc' := 74) dX9_tellsAct_73 rfl i108.1 rfl ?_
    refine R_iload_n (pc' := 75) dX9_tellsAct_74 rfl rfl ?_
    refine R_iload_n (pc' := 76) dX9_tellsAct_75 rfl rfl ?_
    refine Q_callVI (vs := [(0, a1), (0, a2)]) (st := []) (pc' := 79) dX9_tellsAct_76 l_RX9_454 i108 (by decide) rfl rfl (Nat.le_of_ble_eq_true rfl) rfl (Nat.zero_le _) (Nat.zero_le _) rfl ?_
    refine CI.mono h (fun c10 r11 h => ?_)
    exact Q_iret dX9_tellsAct_79 rfl h
  · have h := h.2.2.1 hk
    refine R_tableAt (tgt := 58) 5 hk dX9_tellsAct_6 (ir_l (by decide) (by decide)) (by decide) rfl (by decide) ?_
    refine R_aload_n (pc' := 59) dX9_tellsAct_58 rfl i108.1 rfl ?_
    refine R_bipush (pc' := 61) dX9_tellsAct_59 (by decide) rfl ?_
    refine Q_callVV (vs := [(0, 60)]) (st := []) (pc' := 64) dX9_tellsAct_61 l_RX9_436 i108 (by decide) rfl rfl (Nat.le_of_ble_eq_true rfl) rfl (Nat.zero_le _) (Nat.zero_le _) rfl ?_
    refine CV.mono h (fun c13 h => ?_)
    refine R_aload_n (pc' := 65) dX9_tellsAct_64 rfl i108.1 rfl ?_
    refine R_iload_n (pc' := 66) dX9_tellsAct_65 rfl rfl ?_
    refine R_iload_n (pc' := 67) dX9_tellsAct_66 rfl rfl ?_
    refine R_iload_n (pc' := 68) dX9_tellsAct_67 rfl rfl ?_
    refine R_isub (pc' := 69) dX9_tellsAct_68 rfl ?_
    refine Q_callVI (vs := [(0, a1), (0, (a2 - a1))]) (st := []) (pc' := 72) dX9_tellsAct_69 l_RX9_454 i108 (by decide) rfl rfl (Nat.le_of_ble_eq_true rfl) rfl (Nat.zero_le _) (Nat.zero_le _) rfl ?_
    refine CI.mono h (fun c15 r16 h => ?_)
    exact Q_iret dX9_tellsAct_72 rfl h
  · have h := h.2.2.2.1 hk
    refine R_tableAt (tgt := 36) 6 hk dX9_tellsAct_6 (ir_l (by decide) (by decide)) (by decide) rfl (by decide) ?_
    refine R_aload_n (pc' := 37) dX9_tellsAct_36 rfl i108.1 rfl ?_
    refine R_bipush (pc' := 39) dX9_tellsAct_37 (by decide) rfl ?_
    refine Q_callVV (vs := [(0, 40)]) (st := []) (pc' := 42) dX9_tellsAct_39 l_RX9_436 i108 (by decide) rfl rfl (Nat.le_of_ble_eq_true rfl) rfl (Nat.zero_le _) (Nat.zero_le _) rfl ?_
    refine CV.mono h (fun c18 h => ?_)
    refine R_aload_n (pc' := 43) dX9_tellsAct_42 rfl i108.1 rfl ?_
    refine R_iload_n (pc' := 44) dX9_tellsAct_43 rfl rfl ?_
    refine R_iload_n (pc' := 45) dX9_tellsAct_44 rfl rfl ?_
    refine Q_callVI (vs := [(0, a1), (0, a2)]) (st := []) (pc' := 48) dX9_tellsAct_45 l_RX9_454 i108 (by decide) rfl rfl (Nat.le_of_ble_eq_true rfl) rfl (Nat.zero_le _) (Nat.zero_le _) rfl ?_
    refine CI.mono h (fun c20 r21 h => ?_)
    refine R_istore_n (L' := [_, _, _, _]) (pc' := 49) dX9_tellsAct_48 (by decide) rfl rfl rfl ?_
    refine R_iload_n (pc' := 50) dX9_tellsAct_49 rfl rfl ?_
    refine R_aload_n (pc' := 51) dX9_tellsAct_50 rfl i108.1 rfl ?_
    refine R_iload_n (pc' := 52) dX9_tellsAct_51 rfl rfl ?_
    refine R_iconst (pc' := 53) dX9_tellsAct_52 rfl ?_
    refine Q_callVI (vs := [(0, a1), (0, 1)]) (st := [(0, r21)]) (pc' := 56) dX9_tellsAct_53 l_RX9_451 i108 (by decide) rfl rfl (Nat.le_of_ble_eq_true rfl) rfl (Nat.zero_le _) (Nat.zero_le _) rfl ?_
    refine CI.mono h (fun c22 r23 h => ?_)
    refine R_iadd (pc' := 57) dX9_tellsAct_56 rfl ?_
    exact Q_iret dX9_tellsAct_57 rfl h
  · have h := h.2.2.2.2 hk
    refine R_tableOut (tgt := 73) dX9_tellsAct_6 hs0 hk (by decide) ?_
    refine R_aload_n (pc' := 74) dX9_tellsAct_73 rfl i108.1 rfl ?_
    refine R_iload_n (pc' := 75) dX9_tellsAct_74 rfl rfl ?_
    refine R_iload_n (pc' := 76) dX9_tellsAct_75 rfl rfl ?_
    refine Q_callVI (vs := [(0, a1), (0, a2)]) (st := []) (pc' := 79) dX9_tellsAct_76 l_RX9_454 i108 (by decide) rfl rfl (Nat.le_of_ble_eq_true rfl) rfl (Nat.zero_le _) (Nat.zero_le _) rfl ?_
    refine CI.mono h (fun c24 r25 h => ?_)
    exact Q_iret dX9_tellsAct_79 rfl h
theorem e_X9_tellsAct {K : SK} {d : Nat} {c : ct} {Q : ct → Int → Prop} (a1 : Int) (a2 : Int) (h : WI K (d + 1) mX9_tellsAct 0 [(2, 108), (0, a1), (0, a2), (9, 0)] [] c Q) : CI K (d + 1) mX9_tellsAct [(2, 108), (0, a1), (0, a2)] c Q := CM_ofS (by decide) (Nat.le_of_ble_eq_true rfl) _ rfl h
set_option maxRecDepth 100000 in
theorem s_X9_act_0 {K : SK} {d : Nat} {c : ct} {Q : ct → Int → Prop} (a1 : Int) (a2 : Int) (a3 : Int) (h : ∀ c1 : ct, c1 = up2 c 108 72 0 → CI K d mX9_isGuest [(2, 108), (0, a1)] c1 (fun c2 r3 => (r3 = 0 → Q c2 0) ∧ (¬ (r3 = 0) → ir r3 ∧ CI K d mX9_in [(2, 108), (0, a2), (0, 0), (0, 2)] c2 (fun c5 r6 => (r6 = 0 → Q c5 0) ∧ (¬ (r6 = 0) → ir r6 ∧ (a2 = 0 → CI K d mX9_sipsAct [(2, 108), (0, a1), (0, a3)] c5 (fun c9 r10 => Q c9 r10)) ∧ (¬ (a2 = 0) → ir a2 ∧ (a2 = 1 → CI K d mX9_chatsAct [(2, 108), (0, a1), (0, a3)] c5 (fun c12 r13 => Q c12 r13)) ∧ (¬ (a2 = 1) → ir a2 ∧ CI K d mX9_tellsAct [(2, 108), (0, a1), (0, a3)] c5 (fun c14 r15 => Q c14 r15)))))))) : WI K (d + 1) mX9_act 0 [(2, 108), (0, a1), (0, a2), (0, a3)] [] c Q := by
  refine R_aload_n (pc' := 1) dX9_act_0 rfl i108.1 rfl ?_
  refine R_iconst (pc' := 2) dX9_act_1 rfl ?_
  refine Q_putfi (J := 72) (pc' := 5) rfl dX9_act_2 l_RX9_229 i108 fd9_72.1 fd9_72.2.1 fd9_72.2.2.2.1 fd9_72.2.2.2.2 rfl (fun c1 hc1 => ?_)
  have h := h c1 hc1
  refine R_aload_n (pc' := 6) dX9_act_5 rfl i108.1 rfl ?_
  refine R_iload_n (pc' := 7) dX9_act_6 rfl rfl ?_
  refine Q_callVI (vs := [(0, a1)]) (st := []) (pc' := 10) dX9_act_7 l_RX9_260 i108 (by decide) rfl rfl (Nat.le_of_ble_eq_true rfl) rfl (Nat.zero_le _) (Nat.zero_le _) rfl ?_
  refine CI.mono h (fun c2 r3 h => ?_)
  by_cases hc4 : r3 = 0
  · have h := h.1 hc4
    refine R_eqS_if (tgt := 23) (pc' := 13) dX9_act_10 (by decide) hc4 rfl ?_
    refine R_iconst (pc' := 24) dX9_act_23 rfl ?_
    exact Q_iret dX9_act_24 rfl h
  · have h := h.2 hc4
    refine R_eqD_if (tgt := 23) (pc' := 13) dX9_act_10 (by decide) hc4 h.1 rfl ?_
    have h := h.2
    refine R_aload_n (pc' := 14) dX9_act_13 rfl i108.1 rfl ?_
    refine R_iload_n (pc' := 15) dX9_act_14 rfl rfl ?_
    refine R_iconst (pc' := 16) dX9_act_15 rfl ?_
    refine R_iconst (pc' := 17) dX9_act_16 rfl ?_
    refine Q_callVI (vs := [(0, a2), (0, 0), (0, 2)]) (st := []) (pc' := 20) dX9_act_17 l_RX9_252 i108 (by decide) rfl rfl (Nat.le_of_ble_eq_true rfl) rfl (Nat.zero_le _) (Nat.zero_le _) rfl ?_
    refine CI.mono h (fun c5 r6 h => ?_)
    by_cases hc7 : r6 = 0
    · have h := h.1 hc7
      refine R_neS_if (tgt := 25) (pc' := 23) dX9_act_20 (by decide) hc7 rfl ?_
      refine R_iconst (pc' := 24) dX9_act_23 rfl ?_
      exact Q_iret dX9_act_24 rfl h
    · have h := h.2 hc7
      refine R_neD_if (tgt := 25) (pc' := 23) dX9_act_20 (by decide) hc7 h.1 rfl ?_
      have h := h.2
      refine R_iload_n (pc' := 26) dX9_act_25 rfl rfl ?_
      by_cases hc8 : a2 = 0
      · have h := h.1 hc8
        refine R_neS_if (tgt := 38) (pc' := 29) dX9_act_26 (by decide) hc8 rfl ?_
        refine R_aload_n (pc' := 30) dX9_act_29 rfl i108.1 rfl ?_
        refine R_iload_n (pc' := 31) dX9_act_30 rfl rfl ?_
        refine R_iload_n (pc' := 32) dX9_act_31 rfl rfl ?_
        refine Q_callVI (vs := [(0, a1), (0, a3)]) (st := []) (pc' := 35) dX9_act_32 l_RX9_442 i108 (by decide) rfl rfl (Nat.le_of_ble_eq_true rfl) rfl (Nat.zero_le _) (Nat.zero_le _) rfl ?_
        refine CI.mono h (fun c9 r10 h => ?_)
        refine R_goto (tgt := 58) dX9_act_35 (by decide) ?_
        exact Q_iret dX9_act_58 rfl h
      · have h := h.2 hc8
        refine R_neD_if (tgt := 38) (pc' := 29) dX9_act_26 (by decide) hc8 h.1 rfl ?_
        have h := h.2
        refine R_iload_n (pc' := 39) dX9_act_38 rfl rfl ?_
        refine R_iconst (pc' := 40) dX9_act_39 rfl ?_
        by_cases hc11 : a2 = 1
        · have h := h.1 hc11
          refine R_neS_ic (tgt := 52) (pc' := 43) dX9_act_40 (by decide) hc11 rfl ?_
          refine R_aload_n (pc' := 44) dX9_act_43 rfl i108.1 rfl ?_
          refine R_iload_n (pc' := 45) dX9_act_44 rfl rfl ?_
          refine R_iload_n (pc' := 46) dX9_act_45 rfl rfl ?_
          refine Q_callVI (vs := [(0, a1), (0, a3)]) (st := []) (pc' := 49) dX9_act_46 l_RX9_451 i108 (by decide) rfl rfl (Nat.le_of_ble_eq_true rfl) rfl (Nat.zero_le _) (Nat.zero_le _) rfl ?_
          refine CI.mono h (fun c12 r13 h => ?_)
          refine R_goto (tgt := 58) dX9_act_49 (by decide) ?_
          exact Q_iret dX9_act_58 rfl h
        · have h := h.2 hc11
          refine R_neD_ic (tgt := 52) (pc' := 43) dX9_act_40 (by decide) hc11 ⟨h.1, ir_l (by decide) (by decide)⟩ rfl ?_
          have h := h.2
          refine R_aload_n (pc' := 53) dX9_act_52 rfl i108.1 rfl ?_
          refine R_iload_n (pc' := 54) dX9_act_53 rfl rfl ?_
          refine R_iload_n (pc' := 55) dX9_act_54 rfl rfl ?_
          refine Q_callVI (vs := [(0, a1), (0, a3)]) (st := []) (pc' := 58) dX9_act_55 l_RX9_457 i108 (by decide) rfl rfl (Nat.le_of_ble_eq_true rfl) rfl (Nat.zero_le _) (Nat.zero_le _) rfl ?_
          refine CI.mono h (fun c14 r15 h => ?_)
          exact Q_iret dX9_act_58 rfl h
theorem e_X9_act {K : SK} {d : Nat} {c : ct} {Q : ct → Int → Prop} (a1 : Int) (a2 : Int) (a3 : Int) (h : WI K (d + 1) mX9_act 0 [(2, 108), (0, a1), (0, a2), (0, a3)] [] c Q) : CI K (d + 1) mX9_act [(2, 108), (0, a1), (0, a2), (0, a3)] c Q := CM_ofS (by decide) (Nat.le_of_ble_eq_true rfl) _ rfl h
set_option maxRecDepth 100000 in
theorem s_X9_trace_0 {K : SK} {d : Nat} {c : ct} {Q : ct → Int → Prop} (a1 : Int) (h : CI K d mX9_in [(2, 108), (0, a1), (0, 0), (0, 19)] c (fun c1 r2 => (r2 = 0 → Q c1 (-1)) ∧ (¬ (r2 = 0) → ir r2 ∧ (ir a1 ∧ ir (c1 108 72)) ∧ ((c1 108 72) ≤ a1 → Q c1 (-1)) ∧ (¬ ((c1 108 72) ≤ a1) → ((0 ≤ a1 ∧ a1 < 20)) ∧ Q c1 (c1 148 a1))))) : WI K (d + 1) mX9_trace 0 [(2, 108), (0, a1)] [] c Q := by
  refine R_aload_n (pc' := 1) dX9_trace_0 rfl i108.1 rfl ?_
  refine R_iload_n (pc' := 2) dX9_trace_1 rfl rfl ?_
  refine R_iconst (pc' := 3) dX9_trace_2 rfl ?_
  refine R_bipush (pc' := 5) dX9_trace_3 (by decide) rfl ?_
  refine Q_callVI (vs := [(0, a1), (0, 0), (0, 19)]) (st := []) (pc' := 8) dX9_trace_5 l_RX9_252 i108 (by decide) rfl rfl (Nat.le_of_ble_eq_true rfl) rfl (Nat.zero_le _) (Nat.zero_le _) rfl ?_
  refine CI.mono h (fun c1 r2 h => ?_)
  by_cases hc3 : r2 = 0
  · have h := h.1 hc3
    refine R_eqS_if (tgt := 28) (pc' := 11) dX9_trace_8 (by decide) hc3 rfl ?_
    refine R_iconst (pc' := 29) dX9_trace_28 rfl ?_
    exact Q_iret dX9_trace_29 rfl h
  · have h := h.2 hc3
    refine R_eqD_if (tgt := 28) (pc' := 11) dX9_trace_8 (by decide) hc3 h.1 rfl ?_
    have h := h.2
    refine R_iload_n (pc' := 12) dX9_trace_11 rfl rfl ?_
    refine R_aload_n (pc' := 13) dX9_trace_12 rfl i108.1 rfl ?_
    refine Q_getfi (J := 72) (pc' := 16) rfl dX9_trace_13 l_RX9_229 i108 fd9_72.1 fd9_72.2.1 fd9_72.2.2.1 rfl ?_
    have hs5 := h.1
    have h := h.2
    refine R_icmp_ge (tgt := 28) (pc' := 19) dX9_trace_16 (by decide) hs5.1 hs5.2 rfl (fun hc4 => ?_) (fun hc4 => ?_)
    · have h := h.1 hc4
      refine R_iconst (pc' := 29) dX9_trace_28 rfl ?_
      exact Q_iret dX9_trace_29 rfl h
    · have h := h.2 hc4
      refine R_aload_n (pc' := 20) dX9_trace_19 rfl i108.1 rfl ?_
      refine Q_getfr (v := 148) (J := 73) (pc' := 23) rfl dX9_trace_20 l_RX9_232 i108 fd9_73.1 fd9_73.2.1 fd9_73.2.2.1 fd9_73.2.2.2 f108_73 rfl ?_
      refine R_iload_n (pc' := 24) dX9_trace_23 rfl rfl ?_
      have hs6 := h.1
      have h := h.2
      refine Q_iaload (N := 20) (pc' := 25) rfl dX9_trace_24 i148 (by decide) hs6 rfl ?_
      refine R_goto (tgt := 29) dX9_trace_25 (by decide) ?_
      exact Q_iret dX9_trace_29 rfl h
theorem e_X9_trace {K : SK} {d : Nat} {c : ct} {Q : ct → Int → Prop} (a1 : Int) (h : WI K (d + 1) mX9_trace 0 [(2, 108), (0, a1)] [] c Q) : CI K (d + 1) mX9_trace [(2, 108), (0, a1)] c Q := CM_ofS (by decide) (Nat.le_of_ble_eq_true rfl) _ rfl h
set_option maxRecDepth 100000 in
theorem s_X9_taken_0 {K : SK} {d : Nat} {c : ct} {Q : ct → Int → Prop} (a1 : Int) (a2 : Int) (h : CI K d mX9_in [(2, 108), (0, a2), (0, 0), (0, 6)] c (fun c1 r2 => (r2 = 0 → Q c1 (-2)) ∧ (¬ (r2 = 0) → ir r2 ∧ CI K d mX9_isGuest [(2, 108), (0, a1)] c1 (fun c4 r5 => (r5 = 0 → Q c4 (-11)) ∧ (¬ (r5 = 0) → ir r5 ∧ ((0 ≤ a1 ∧ a1 < 6)) ∧ (a2 = 0 → Q c4 (c4 109 a1)) ∧ (¬ (a2 = 0) → ir a2 ∧ ((c4 109 a1) = a2 → Q c4 (c4 109 a1)) ∧ (¬ ((c4 109 a1) = a2) → (ir (c4 109 a1) ∧ ir a2) ∧ (a2 = 1 → ((c4 109 a1) = 4 → Q c4 (c4 109 a1)) ∧ (¬ ((c4 109 a1) = 4) → ir (c4 109 a1) ∧ WI K (d + 1) mX9_taken 51 [(9, 0), (9, 0), (0, a2), (0, (c4 109 a1))] [] c4 Q)) ∧ (¬ (a2 = 1) → ir a2 ∧ WI K (d + 1) mX9_taken 51 [(9, 0), (9, 0), (0, a2), (0, (c4 109 a1))] [] c4 Q)))))))) : WI K (d + 1) mX9_taken 0 [(2, 108), (0, a1), (0, a2), (9, 0)] [] c Q := by
  refine R_aload_n (pc' := 1) dX9_taken_0 rfl i108.1 rfl ?_
  refine R_iload_n (pc' := 2) dX9_taken_1 rfl rfl ?_
  refine R_iconst (pc' := 3) dX9_taken_2 rfl ?_
  refine R_bipush (pc' := 5) dX9_taken_3 (by decide) rfl ?_
  refine Q_callVI (vs := [(0, a2), (0, 0), (0, 6)]) (st := []) (pc' := 8) dX9_taken_5 l_RX9_252 i108 (by decide) rfl rfl (Nat.le_of_ble_eq_true rfl) rfl (Nat.zero_le _) (Nat.zero_le _) rfl ?_
  refine CI.mono h (fun c1 r2 h => ?_)
  by_cases hc3 : r2 = 0
  · have h := h.1 hc3
    refine R_neS_if (tgt := 14) (pc' := 11) dX9_taken_8 (by decide) hc3 rfl ?_
    refine R_bipush (pc' := 13) dX9_taken_11 (by decide) rfl ?_
    exact Q_iret dX9_taken_13 rfl h
  · have h := h.2 hc3
    refine R_neD_if (tgt := 14) (pc' := 11) dX9_taken_8 (by decide) hc3 h.1 rfl ?_
    have h := h.2
    refine R_aload_n (pc' := 15) dX9_taken_14 rfl i108.1 rfl ?_
    refine R_iload_n (pc' := 16) dX9_taken_15 rfl rfl ?_
    refine Q_callVI (vs := [(0, a1)]) (st := []) (pc' := 19) dX9_taken_16 l_RX9_260 i108 (by decide) rfl rfl (Nat.le_of_ble_eq_true rfl) rfl (Nat.zero_le _) (Nat.zero_le _) rfl ?_
    refine CI.mono h (fun c4 r5 h => ?_)
    by_cases hc6 : r5 = 0
    · have h := h.1 hc6
      refine R_neS_if (tgt := 25) (pc' := 22) dX9_taken_19 (by decide) hc6 rfl ?_
      refine R_bipush (pc' := 24) dX9_taken_22 (by decide) rfl ?_
      exact Q_iret dX9_taken_24 rfl h
    · have h := h.2 hc6
      refine R_neD_if (tgt := 25) (pc' := 22) dX9_taken_19 (by decide) hc6 h.1 rfl ?_
      have h := h.2
      refine R_aload_n (pc' := 26) dX9_taken_25 rfl i108.1 rfl ?_
      refine Q_getfr (v := 109) (J := 5) (pc' := 29) rfl dX9_taken_26 l_RX9_25 i108 fd9_5.1 fd9_5.2.1 fd9_5.2.2.1 fd9_5.2.2.2 f108_5 rfl ?_
      refine R_iload_n (pc' := 30) dX9_taken_29 rfl rfl ?_
      have hs7 := h.1
      have h := h.2
      refine Q_iaload (N := 6) (pc' := 31) rfl dX9_taken_30 i109 (by decide) hs7 rfl ?_
      refine R_istore_n (L' := [_, _, _, _]) (pc' := 32) dX9_taken_31 (by decide) rfl rfl rfl ?_
      refine R_iload_n (pc' := 33) dX9_taken_32 rfl rfl ?_
      by_cases hc8 : a2 = 0
      · have h := h.1 hc8
        refine R_eqS_if (tgt := 72) (pc' := 36) dX9_taken_33 (by decide) hc8 rfl ?_
        refine R_iload_n (pc' := 73) dX9_taken_72 rfl rfl ?_
        refine R_goto (tgt := 78) dX9_taken_73 (by decide) ?_
        exact Q_iret dX9_taken_78 rfl h
      · have h := h.2 hc8
        refine R_eqD_if (tgt := 72) (pc' := 36) dX9_taken_33 (by decide) hc8 h.1 rfl ?_
        have h := h.2
        refine R_iload_n (pc' := 37) dX9_taken_36 rfl rfl ?_
        refine R_iload_n (pc' := 38) dX9_taken_37 rfl rfl ?_
        by_cases hc9 : (c4 109 a1) = a2
        · have h := h.1 hc9
          refine R_eqS_ic (tgt := 72) (pc' := 41) dX9_taken_38 (by decide) hc9 rfl ?_
          refine R_iload_n (pc' := 73) dX9_taken_72 rfl rfl ?_
          refine R_goto (tgt := 78) dX9_taken_73 (by decide) ?_
          exact Q_iret dX9_taken_78 rfl h
        · have h := h.2 hc9
          refine R_eqD_ic (tgt := 72) (pc' := 41) dX9_taken_38 (by decide) hc9 h.1 rfl ?_
          have h := h.2
          refine R_iload_n (pc' := 42) dX9_taken_41 rfl rfl ?_
          refine R_iconst (pc' := 43) dX9_taken_42 rfl ?_
          by_cases hc10 : a2 = 1
          · have h := h.1 hc10
            refine R_neS_ic (tgt := 51) (pc' := 46) dX9_taken_43 (by decide) hc10 rfl ?_
            refine R_iload_n (pc' := 47) dX9_taken_46 rfl rfl ?_
            refine R_iconst (pc' := 48) dX9_taken_47 rfl ?_
            by_cases hc11 : (c4 109 a1) = 4
            · have h := h.1 hc11
              refine R_eqS_ic (tgt := 72) (pc' := 51) dX9_taken_48 (by decide) hc11 rfl ?_
              refine R_iload_n (pc' := 73) dX9_taken_72 rfl rfl ?_
              refine R_goto (tgt := 78) dX9_taken_73 (by decide) ?_
              exact Q_iret dX9_taken_78 rfl h
            · have h := h.2 hc11
              refine R_eqD_ic (tgt := 72) (pc' := 51) dX9_taken_48 (by decide) hc11 ⟨h.1, ir_l (by decide) (by decide)⟩ rfl ?_
              have h := h.2
              exact WP_wk (wk_u (wk_u (wk_e (wk_e wk_n)))) h
          · have h := h.2 hc10
            refine R_neD_ic (tgt := 51) (pc' := 46) dX9_taken_43 (by decide) hc10 ⟨h.1, ir_l (by decide) (by decide)⟩ rfl ?_
            have h := h.2
            exact WP_wk (wk_u (wk_u (wk_e (wk_e wk_n)))) h
set_option maxRecDepth 100000 in
theorem s_X9_taken_51 {K : SK} {d : Nat} {c : ct} {Q : ct → Int → Prop} (a2 : Int) (a3 : Int) (h : (a2 = 2 → (a3 = 5 → Q c a3) ∧ (¬ (a3 = 5) → ir a3 ∧ (a2 = 3 → (a3 = 6 → Q c a3) ∧ (¬ (a3 = 6) → ir a3 ∧ Q c (-12))) ∧ (¬ (a2 = 3) → ir a2 ∧ Q c (-12)))) ∧ (¬ (a2 = 2) → ir a2 ∧ (a2 = 3 → (a3 = 6 → Q c a3) ∧ (¬ (a3 = 6) → ir a3 ∧ Q c (-12))) ∧ (¬ (a2 = 3) → ir a2 ∧ Q c (-12)))) : WI K (d + 1) mX9_taken 51 [(9, 0), (9, 0), (0, a2), (0, a3)] [] c Q := by
  refine R_iload_n (pc' := 52) dX9_taken_51 rfl rfl ?_
  refine R_iconst (pc' := 53) dX9_taken_52 rfl ?_
  by_cases hc1 : a2 = 2
  · have h := h.1 hc1
    refine R_neS_ic (tgt := 61) (pc' := 56) dX9_taken_53 (by decide) hc1 rfl ?_
    refine R_iload_n (pc' := 57) dX9_taken_56 rfl rfl ?_
    refine R_iconst (pc' := 58) dX9_taken_57 rfl ?_
    by_cases hc2 : a3 = 5
    · have h := h.1 hc2
      refine R_eqS_ic (tgt := 72) (pc' := 61) dX9_taken_58 (by decide) hc2 rfl ?_
      refine R_iload_n (pc' := 73) dX9_taken_72 rfl rfl ?_
      refine R_goto (tgt := 78) dX9_taken_73 (by decide) ?_
      exact Q_iret dX9_taken_78 rfl h
    · have h := h.2 hc2
      refine R_eqD_ic (tgt := 72) (pc' := 61) dX9_taken_58 (by decide) hc2 ⟨h.1, ir_l (by decide) (by decide)⟩ rfl ?_
      have h := h.2
      refine R_iload_n (pc' := 62) dX9_taken_61 rfl rfl ?_
      refine R_iconst (pc' := 63) dX9_taken_62 rfl ?_
      by_cases hc3 : a2 = 3
      · have h := h.1 hc3
        refine R_neS_ic (tgt := 76) (pc' := 66) dX9_taken_63 (by decide) hc3 rfl ?_
        refine R_iload_n (pc' := 67) dX9_taken_66 rfl rfl ?_
        refine R_bipush (pc' := 69) dX9_taken_67 (by decide) rfl ?_
        by_cases hc4 : a3 = 6
        · have h := h.1 hc4
          refine R_neS_ic (tgt := 76) (pc' := 72) dX9_taken_69 (by decide) hc4 rfl ?_
          refine R_iload_n (pc' := 73) dX9_taken_72 rfl rfl ?_
          refine R_goto (tgt := 78) dX9_taken_73 (by decide) ?_
          exact Q_iret dX9_taken_78 rfl h
        · have h := h.2 hc4
          refine R_neD_ic (tgt := 76) (pc' := 72) dX9_taken_69 (by decide) hc4 ⟨h.1, ir_l (by decide) (by decide)⟩ rfl ?_
          have h := h.2
          refine R_bipush (pc' := 78) dX9_taken_76 (by decide) rfl ?_
          exact Q_iret dX9_taken_78 rfl h
      · have h := h.2 hc3
        refine R_neD_ic (tgt := 76) (pc' := 66) dX9_taken_63 (by decide) hc3 ⟨h.1, ir_l (by decide) (by decide)⟩ rfl ?_
        have h := h.2
        refine R_bipush (pc' := 78) dX9_taken_76 (by decide) rfl ?_
        exact Q_iret dX9_taken_78 rfl h
  · have h := h.2 hc1
    refine R_neD_ic (tgt := 61) (pc' := 56) dX9_taken_53 (by decide) hc1 ⟨h.1, ir_l (by decide) (by decide)⟩ rfl ?_
    have h := h.2
    refine R_iload_n (pc' := 62) dX9_taken_61 rfl rfl ?_
    refine R_iconst (pc' := 63) dX9_taken_62 rfl ?_
    by_cases hc5 : a2 = 3
    · have h := h.1 hc5
      refine R_neS_ic (tgt := 76) (pc' := 66) dX9_taken_63 (by decide) hc5 rfl ?_
      refine R_iload_n (pc' := 67) dX9_taken_66 rfl rfl ?_
      refine R_bipush (pc' := 69) dX9_taken_67 (by decide) rfl ?_
      by_cases hc6 : a3 = 6
      · have h := h.1 hc6
        refine R_neS_ic (tgt := 76) (pc' := 72) dX9_taken_69 (by decide) hc6 rfl ?_
        refine R_iload_n (pc' := 73) dX9_taken_72 rfl rfl ?_
        refine R_goto (tgt := 78) dX9_taken_73 (by decide) ?_
        exact Q_iret dX9_taken_78 rfl h
      · have h := h.2 hc6
        refine R_neD_ic (tgt := 76) (pc' := 72) dX9_taken_69 (by decide) hc6 ⟨h.1, ir_l (by decide) (by decide)⟩ rfl ?_
        have h := h.2
        refine R_bipush (pc' := 78) dX9_taken_76 (by decide) rfl ?_
        exact Q_iret dX9_taken_78 rfl h
    · have h := h.2 hc5
      refine R_neD_ic (tgt := 76) (pc' := 66) dX9_taken_63 (by decide) hc5 ⟨h.1, ir_l (by decide) (by decide)⟩ rfl ?_
      have h := h.2
      refine R_bipush (pc' := 78) dX9_taken_76 (by decide) rfl ?_
      exact Q_iret dX9_taken_78 rfl h
theorem e_X9_taken {K : SK} {d : Nat} {c : ct} {Q : ct → Int → Prop} (a1 : Int) (a2 : Int) (h : WI K (d + 1) mX9_taken 0 [(2, 108), (0, a1), (0, a2), (9, 0)] [] c Q) : CI K (d + 1) mX9_taken [(2, 108), (0, a1), (0, a2)] c Q := CM_ofS (by decide) (Nat.le_of_ble_eq_true rfl) _ rfl h
set_option maxRecDepth 100000 in
theorem s_X9_count_0 {K : SK} {d : Nat} {c : ct} {Q : ct → Int → Prop} (a1 : Int) (h : ir a1 ∧ (a1 = 0 → Q c (c 108 0)) ∧ (a1 = 1 → Q c (c 108 10)) ∧ (a1 = 2 → Q c (c 108 39)) ∧ (a1 = 3 → Q c (c 108 44)) ∧ (a1 = 4 → Q c (c 108 45)) ∧ (a1 = 5 → Q c (c 108 12)) ∧ (a1 = 6 → Q c (c 108 72)) ∧ ((a1 < 0 ∨ 6 < a1) → Q c (-2))) : WI K (d + 1) mX9_count 0 [(2, 108), (0, a1)] [] c Q := by
  refine R_iload_n (pc' := 1) dX9_count_0 rfl rfl ?_
  have hs0 := h.1
  have h := h.2
  rcases (show a1 = 0 ∨ a1 = 1 ∨ a1 = 2 ∨ a1 = 3 ∨ a1 = 4 ∨ a1 = 5 ∨ a1 = 6 ∨ (a1 < 0 ∨ 6 < a1) by omega) with hk | hk | hk | hk | hk | hk | hk | hk
  · have h := h.1 hk
    refine R_tableAt (tgt := 44) 0 hk dX9_count_1 (ir_l (by decide) (by decide)) (by decide) rfl (by decide) ?_
    refine R_aload_n (pc' := 45) dX9_count_44 rfl i108.1 rfl ?_
    refine Q_getfi (J := 0) (pc' := 48) rfl dX9_count_45 l_RX9_7 i108 fd9_0.1 fd9_0.2.1 fd9_0.2.2.1 rfl ?_
    exact Q_iret dX9_count_48 rfl h
  · have h := h.2.1 hk
    refine R_tableAt (tgt := 49) 1 hk dX9_count_1 (ir_l (by decide) (by decide)) (by decide) rfl (by decide) ?_
    refine R_aload_n (pc' := 50) dX9_count_49 rfl i108.1 rfl ?_
    refine Q_getfi (J := 10) (pc' := 53) rfl dX9_count_50 l_RX9_41 i108 fd9_10.1 fd9_10.2.1 fd9_10.2.2.1 rfl ?_
    exact Q_iret dX9_count_53 rfl h
  · have h := h.2.2.1 hk
    refine R_tableAt (tgt := 54) 2 hk dX9_count_1 (ir_l (by decide) (by decide)) (by decide) rfl (by decide) ?_
    refine R_aload_n (pc' := 55) dX9_count_54 rfl i108.1 rfl ?_
    refine Q_getfi (J := 39) (pc' := 58) rfl dX9_count_55 l_RX9_129 i108 fd9_39.1 fd9_39.2.1 fd9_39.2.2.1 rfl ?_
    exact Q_iret dX9_count_58 rfl h
  · have h := h.2.2.2.1 hk
    refine R_tableAt (tgt := 59) 3 hk dX9_count_1 (ir_l (by decide) (by decide)) (by decide) rfl (by decide) ?_
    refine R_aload_n (pc' := 60) dX9_count_59 rfl i108.1 rfl ?_
    refine Q_getfi (J := 44) (pc' := 63) rfl dX9_count_60 l_RX9_144 i108 fd9_44.1 fd9_44.2.1 fd9_44.2.2.1 rfl ?_
    exact Q_iret dX9_count_63 rfl h
  · have h := h.2.2.2.2.1 hk
    refine R_tableAt (tgt := 64) 4 hk dX9_count_1 (ir_l (by decide) (by decide)) (by decide) rfl (by decide) ?_
    refine R_aload_n (pc' := 65) dX9_count_64 rfl i108.1 rfl ?_
    refine Q_getfi (J := 45) (pc' := 68) rfl dX9_count_65 l_RX9_147 i108 fd9_45.1 fd9_45.2.1 fd9_45.2.2.1 rfl ?_
    exact Q_iret dX9_count_68 rfl h
  · have h := h.2.2.2.2.2.1 hk
    refine R_tableAt (tgt := 69) 5 hk dX9_count_1 (ir_l (by decide) (by decide)) (by decide) rfl (by decide) ?_
    refine R_aload_n (pc' := 70) dX9_count_69 rfl i108.1 rfl ?_
    refine Q_getfi (J := 12) (pc' := 73) rfl dX9_count_70 l_RX9_47 i108 fd9_12.1 fd9_12.2.1 fd9_12.2.2.1 rfl ?_
    exact Q_iret dX9_count_73 rfl h
  · have h := h.2.2.2.2.2.2.1 hk
    refine R_tableAt (tgt := 74) 6 hk dX9_count_1 (ir_l (by decide) (by decide)) (by decide) rfl (by decide) ?_
    refine R_aload_n (pc' := 75) dX9_count_74 rfl i108.1 rfl ?_
    refine Q_getfi (J := 72) (pc' := 78) rfl dX9_count_75 l_RX9_229 i108 fd9_72.1 fd9_72.2.1 fd9_72.2.2.1 rfl ?_
    exact Q_iret dX9_count_78 rfl h
  · have h := h.2.2.2.2.2.2.2 hk
    refine R_tableOut (tgt := 79) dX9_count_1 hs0 hk (by decide) ?_
    refine R_bipush (pc' := 81) dX9_count_79 (by decide) rfl ?_
    exact Q_iret dX9_count_81 rfl h
theorem e_X9_count {K : SK} {d : Nat} {c : ct} {Q : ct → Int → Prop} (a1 : Int) (h : WI K (d + 1) mX9_count 0 [(2, 108), (0, a1)] [] c Q) : CI K (d + 1) mX9_count [(2, 108), (0, a1)] c Q := CM_ofS (by decide) (Nat.le_of_ble_eq_true rfl) _ rfl h
set_option maxRecDepth 100000 in
theorem s_X9_isTape_0 {K : SK} {d : Nat} {c : ct} {Q : ct → Int → Prop} (a1 : Int) (h : CI K d mX9_in [(2, 108), (0, a1), (0, 0), (0, 5)] c (fun c1 r2 => (r2 = 0 ∨ r2 = 1) ∧ Q c1 r2)) : WI K (d + 1) mX9_isTape 0 [(2, 108), (0, a1)] [] c Q := by
  refine R_aload_n (pc' := 1) dX9_isTape_0 rfl i108.1 rfl ?_
  refine R_iload_n (pc' := 2) dX9_isTape_1 rfl rfl ?_
  refine R_iconst (pc' := 3) dX9_isTape_2 rfl ?_
  refine R_iconst (pc' := 4) dX9_isTape_3 rfl ?_
  refine Q_callVI (vs := [(0, a1), (0, 0), (0, 5)]) (st := []) (pc' := 7) dX9_isTape_4 l_RX9_252 i108 (by decide) rfl rfl (Nat.le_of_ble_eq_true rfl) rfl (Nat.zero_le _) (Nat.zero_le _) rfl ?_
  refine CI.mono h (fun c1 r2 h => ?_)
  exact Q_zret dX9_isTape_7 rfl h.1 h.2
theorem e_X9_isTape {K : SK} {d : Nat} {c : ct} {Q : ct → Int → Prop} (a1 : Int) (h : WI K (d + 1) mX9_isTape 0 [(2, 108), (0, a1)] [] c Q) : CI K (d + 1) mX9_isTape [(2, 108), (0, a1)] c Q := CM_ofS (by decide) (Nat.le_of_ble_eq_true rfl) _ rfl h
set_option maxRecDepth 100000 in
theorem s_X9_tape_0 {K : SK} {d : Nat} {c : ct} {Q : ct → Int → Prop} (a1 : Int) (a2 : Int) (a3 : Int) (h : CI K d mX9_isTape [(2, 108), (0, a1)] c (fun c1 r2 => (r2 = 0 → Q c1 (-1)) ∧ (¬ (r2 = 0) → ir r2 ∧ CI K d mX9_in [(2, 108), (0, a2), (0, (-1)), (0, 4)] c1 (fun c4 r5 => (r5 = 0 → Q c4 (-2)) ∧ (¬ (r5 = 0) → ir r5 ∧ (ir a2) ∧ (a2 < 0 → (ir a2) ∧ (a2 < 0 → WI K (d + 1) mX9_tape 44 [(2, 108), (0, a1), (0, a2), (0, a3), (9, 0)] [] c4 Q) ∧ (¬ (a2 < 0) → (ir a3) ∧ (0 ≤ a3 → WI K (d + 1) mX9_tape 44 [(2, 108), (0, a1), (0, a2), (0, a3), (9, 0)] [] c4 Q) ∧ (¬ (0 ≤ a3) → Q c4 (-14)))) ∧ (¬ (a2 < 0) → (ir a3) ∧ (a3 ≤ 60 → (ir a2) ∧ (a2 < 0 → WI K (d + 1) mX9_tape 44 [(2, 108), (0, a1), (0, a2), (0, a3), (9, 0)] [] c4 Q) ∧ (¬ (a2 < 0) → (ir a3) ∧ (0 ≤ a3 → WI K (d + 1) mX9_tape 44 [(2, 108), (0, a1), (0, a2), (0, a3), (9, 0)] [] c4 Q) ∧ (¬ (0 ≤ a3) → Q c4 (-14)))) ∧ (¬ (a3 ≤ 60) → Q c4 (-2)))))))) : WI K (d + 1) mX9_tape 0 [(2, 108), (0, a1), (0, a2), (0, a3), (9, 0)] [] c Q := by
  refine R_aload_n (pc' := 1) dX9_tape_0 rfl i108.1 rfl ?_
  refine R_iload_n (pc' := 2) dX9_tape_1 rfl rfl ?_
  refine Q_callVI (vs := [(0, a1)]) (st := []) (pc' := 5) dX9_tape_2 l_RX9_433 i108 (by decide) rfl rfl (Nat.le_of_ble_eq_true rfl) rfl (Nat.zero_le _) (Nat.zero_le _) rfl ?_
  refine CI.mono h (fun c1 r2 h => ?_)
  by_cases hc3 : r2 = 0
  · have h := h.1 hc3
    refine R_neS_if (tgt := 10) (pc' := 8) dX9_tape_5 (by decide) hc3 rfl ?_
    refine R_iconst (pc' := 9) dX9_tape_8 rfl ?_
    exact Q_iret dX9_tape_9 rfl h
  · have h := h.2 hc3
    refine R_neD_if (tgt := 10) (pc' := 8) dX9_tape_5 (by decide) hc3 h.1 rfl ?_
    have h := h.2
    refine R_aload_n (pc' := 11) dX9_tape_10 rfl i108.1 rfl ?_
    refine R_iload_n (pc' := 12) dX9_tape_11 rfl rfl ?_
    refine R_iconst (pc' := 13) dX9_tape_12 rfl ?_
    refine R_iconst (pc' := 14) dX9_tape_13 rfl ?_
    refine Q_callVI (vs := [(0, a2), (0, (-1)), (0, 4)]) (st := []) (pc' := 17) dX9_tape_14 l_RX9_252 i108 (by decide) rfl rfl (Nat.le_of_ble_eq_true rfl) rfl (Nat.zero_le _) (Nat.zero_le _) rfl ?_
    refine CI.mono h (fun c4 r5 h => ?_)
    by_cases hc6 : r5 = 0
    · have h := h.1 hc6
      refine R_eqS_if (tgt := 30) (pc' := 20) dX9_tape_17 (by decide) hc6 rfl ?_
      refine R_bipush (pc' := 32) dX9_tape_30 (by decide) rfl ?_
      exact Q_iret dX9_tape_32 rfl h
    · have h := h.2 hc6
      refine R_eqD_if (tgt := 30) (pc' := 20) dX9_tape_17 (by decide) hc6 h.1 rfl ?_
      have h := h.2
      refine R_iload_n (pc' := 21) dX9_tape_20 rfl rfl ?_
      have hs8 := h.1
      have h := h.2
      refine R_if_lt (tgt := 33) (pc' := 24) dX9_tape_21 (by decide) hs8  rfl (fun hc7 => ?_) (fun hc7 => ?_)
      · have h := h.1 hc7
        refine R_iload_n (pc' := 34) dX9_tape_33 rfl rfl ?_
        have hs10 := h.1
        have h := h.2
        refine R_if_lt (tgt := 44) (pc' := 37) dX9_tape_34 (by decide) hs10  rfl (fun hc9 => ?_) (fun hc9 => ?_)
        · have h := h.1 hc9
          exact WP_wk (wk_e (wk_e (wk_e (wk_e (wk_u wk_n))))) h
        · have h := h.2 hc9
          refine R_iload_n (pc' := 38) dX9_tape_37 rfl rfl ?_
          have hs12 := h.1
          have h := h.2
          refine R_if_ge (tgt := 44) (pc' := 41) dX9_tape_38 (by decide) hs12  rfl (fun hc11 => ?_) (fun hc11 => ?_)
          · have h := h.1 hc11
            exact WP_wk (wk_e (wk_e (wk_e (wk_e (wk_u wk_n))))) h
          · have h := h.2 hc11
            refine R_bipush (pc' := 43) dX9_tape_41 (by decide) rfl ?_
            exact Q_iret dX9_tape_43 rfl h
      · have h := h.2 hc7
        refine R_iload_n (pc' := 25) dX9_tape_24 rfl rfl ?_
        refine R_bipush (pc' := 27) dX9_tape_25 (by decide) rfl ?_
        have hs14 := h.1
        have h := h.2
        refine R_icmp_le (tgt := 33) (pc' := 30) dX9_tape_27 (by decide) hs14 (ir_l (by decide) (by decide)) rfl (fun hc13 => ?_) (fun hc13 => ?_)
        · have h := h.1 hc13
          refine R_iload_n (pc' := 34) dX9_tape_33 rfl rfl ?_
          have hs16 := h.1
          have h := h.2
          refine R_if_lt (tgt := 44) (pc' := 37) dX9_tape_34 (by decide) hs16  rfl (fun hc15 => ?_) (fun hc15 => ?_)
          · have h := h.1 hc15
            exact WP_wk (wk_e (wk_e (wk_e (wk_e (wk_u wk_n))))) h
          · have h := h.2 hc15
            refine R_iload_n (pc' := 38) dX9_tape_37 rfl rfl ?_
            have hs18 := h.1
            have h := h.2
            refine R_if_ge (tgt := 44) (pc' := 41) dX9_tape_38 (by decide) hs18  rfl (fun hc17 => ?_) (fun hc17 => ?_)
            · have h := h.1 hc17
              exact WP_wk (wk_e (wk_e (wk_e (wk_e (wk_u wk_n))))) h
            · have h := h.2 hc17
              refine R_bipush (pc' := 43) dX9_tape_41 (by decide) rfl ?_
              exact Q_iret dX9_tape_43 rfl h
        · have h := h.2 hc13
          refine R_bipush (pc' := 32) dX9_tape_30 (by decide) rfl ?_
          exact Q_iret dX9_tape_32 rfl h
set_option maxRecDepth 100000 in
theorem s_X9_tape_44 {K : SK} {d : Nat} {c : ct} {Q : ct → Int → Prop} (a1 : Int) (a2 : Int) (a3 : Int) (h : ((0 ≤ a1 ∧ a1 < 6)) ∧ ∀ c1 : ct, c1 = up2 c 149 a1 a2 → (ir a2) ∧ (0 ≤ a2 → ((0 ≤ a1 ∧ a1 < 6)) ∧ ∀ c5 : ct, c5 = up2 c1 150 a1 a3 → WI K (d + 1) mX9_tape 69 [(2, 108), (0, a1), (9, 0), (9, 0), (0, 0)] [] c5 Q) ∧ (¬ (0 ≤ a2) → ((0 ≤ a1 ∧ a1 < 6)) ∧ ∀ c7 : ct, c7 = up2 c1 150 a1 0 → WI K (d + 1) mX9_tape 69 [(2, 108), (0, a1), (9, 0), (9, 0), (0, 0)] [] c7 Q)) : WI K (d + 1) mX9_tape 44 [(2, 108), (0, a1), (0, a2), (0, a3), (9, 0)] [] c Q := by
  refine R_aload_n (pc' := 45) dX9_tape_44 rfl i108.1 rfl ?_
  refine Q_getfr (v := 149) (J := 74) (pc' := 48) rfl dX9_tape_45 l_RX9_235 i108 fd9_74.1 fd9_74.2.1 fd9_74.2.2.1 fd9_74.2.2.2 f108_74 rfl ?_
  refine R_iload_n (pc' := 49) dX9_tape_48 rfl rfl ?_
  refine R_iload_n (pc' := 50) dX9_tape_49 rfl rfl ?_
  have hs2 := h.1
  have h := h.2
  refine Q_iastore (N := 6) (pc' := 51) rfl dX9_tape_50 i149 (by decide) hs2  rfl (fun c1 hc1 => ?_)
  have h := h c1 hc1
  refine R_aload_n (pc' := 52) dX9_tape_51 rfl i108.1 rfl ?_
  refine Q_getfr (v := 150) (J := 75) (pc' := 55) rfl dX9_tape_52 l_RX9_238 i108 fd9_75.1 fd9_75.2.1 fd9_75.2.2.1 fd9_75.2.2.2 f108_75 rfl ?_
  refine R_iload_n (pc' := 56) dX9_tape_55 rfl rfl ?_
  refine R_iload_n (pc' := 57) dX9_tape_56 rfl rfl ?_
  have hs4 := h.1
  have h := h.2
  refine R_if_ge (tgt := 64) (pc' := 60) dX9_tape_57 (by decide) hs4  rfl (fun hc3 => ?_) (fun hc3 => ?_)
  · have h := h.1 hc3
    refine R_iload_n (pc' := 65) dX9_tape_64 rfl rfl ?_
    have hs6 := h.1
    have h := h.2
    refine Q_iastore (N := 6) (pc' := 66) rfl dX9_tape_65 i150 (by decide) hs6  rfl (fun c5 hc5 => ?_)
    have h := h c5 hc5
    refine R_iconst (pc' := 67) dX9_tape_66 rfl ?_
    refine R_istore (L' := [_, _, _, _, _]) (pc' := 69) dX9_tape_67 (by decide) rfl rfl rfl ?_
    exact WP_wk (wk_e (wk_e (wk_u (wk_u (wk_e wk_n))))) h
  · have h := h.2 hc3
    refine R_iconst (pc' := 61) dX9_tape_60 rfl ?_
    refine R_goto (tgt := 65) dX9_tape_61 (by decide) ?_
    have hs8 := h.1
    have h := h.2
    refine Q_iastore (N := 6) (pc' := 66) rfl dX9_tape_65 i150 (by decide) hs8  rfl (fun c7 hc7 => ?_)
    have h := h c7 hc7
    refine R_iconst (pc' := 67) dX9_tape_66 rfl ?_
    refine R_istore (L' := [_, _, _, _, _]) (pc' := 69) dX9_tape_67 (by decide) rfl rfl rfl ?_
    exact WP_wk (wk_e (wk_e (wk_u (wk_u (wk_e wk_n))))) h
set_option maxRecDepth 100000 in
theorem s_X9_tape_69 {K : SK} {d : Nat} {c : ct} {Q : ct → Int → Prop} (a1 : Int) (a4 : Int) (h : (ir a4) ∧ (60 ≤ a4 → Q c 1) ∧ (¬ (60 ≤ a4) → ((0 ≤ ((60 * a1) + a4) ∧ ((60 * a1) + a4) < 360)) ∧ ∀ c3 : ct, c3 = up2 c 151 ((60 * a1) + a4) 0 → WI K (d + 1) mX9_tape 69 [(2, 108), (0, a1), (9, 0), (9, 0), (0, (a4 + 1))] [] c3 Q)) : WI K (d + 1) mX9_tape 69 [(2, 108), (0, a1), (9, 0), (9, 0), (0, a4)] [] c Q := by
  refine R_iload (pc' := 71) dX9_tape_69 rfl rfl ?_
  refine R_bipush (pc' := 73) dX9_tape_71 (by decide) rfl ?_
  have hs2 := h.1
  have h := h.2
  refine R_icmp_ge (tgt := 95) (pc' := 76) dX9_tape_73 (by decide) hs2 (ir_l (by decide) (by decide)) rfl (fun hc1 => ?_) (fun hc1 => ?_)
  · have h := h.1 hc1
    refine R_iconst (pc' := 96) dX9_tape_95 rfl ?_
    exact Q_iret dX9_tape_96 rfl h
  · have h := h.2 hc1
    refine R_aload_n (pc' := 77) dX9_tape_76 rfl i108.1 rfl ?_
    refine Q_getfr (v := 151) (J := 76) (pc' := 80) rfl dX9_tape_77 l_RX9_241 i108 fd9_76.1 fd9_76.2.1 fd9_76.2.2.1 fd9_76.2.2.2 f108_76 rfl ?_
    refine R_bipush (pc' := 82) dX9_tape_80 (by decide) rfl ?_
    refine R_iload_n (pc' := 83) dX9_tape_82 rfl rfl ?_
    refine R_imul (pc' := 84) dX9_tape_83 rfl ?_
    refine R_iload (pc' := 86) dX9_tape_84 rfl rfl ?_
    refine R_iadd (pc' := 87) dX9_tape_86 rfl ?_
    refine R_lconst (x := 0) (pc' := 88) dX9_tape_87 (by decide) rfl ?_
    have hs4 := h.1
    have h := h.2
    refine Q_lastore (N := 360) (pc' := 89) rfl dX9_tape_88 i151 (by decide) hs4  rfl (fun c3 hc3 => ?_)
    have h := h c3 hc3
    refine R_iinc (L' := [_, _, _, _, _]) (pc' := 92) dX9_tape_89 rfl (by decide) rfl rfl rfl ?_
    refine R_goto (tgt := 69) dX9_tape_92 (by decide) ?_
    exact WP_wk (wk_e (wk_e (wk_u (wk_u (wk_e wk_n))))) h
theorem e_X9_tape {K : SK} {d : Nat} {c : ct} {Q : ct → Int → Prop} (a1 : Int) (a2 : Int) (a3 : Int) (h : WI K (d + 1) mX9_tape 0 [(2, 108), (0, a1), (0, a2), (0, a3), (9, 0)] [] c Q) : CI K (d + 1) mX9_tape [(2, 108), (0, a1), (0, a2), (0, a3)] c Q := CM_ofS (by decide) (Nat.le_of_ble_eq_true rfl) _ rfl h
set_option maxRecDepth 100000 in
theorem s_X9_narrow_0 {K : SK} {d : Nat} {c : ct} {Q : ct → Int → Prop} (a1 : Int) (a2 : Int) (h : (a1 = 0 → (ir (toB (toI a2))) ∧ Q c (toB (toI a2))) ∧ (¬ (a1 = 0) → ir a1 ∧ (a1 = 1 → (ir (toS (toI a2))) ∧ Q c (toS (toI a2))) ∧ (¬ (a1 = 1) → ir a1 ∧ (a1 = 2 → (ir (toI a2)) ∧ Q c (toI a2)) ∧ (¬ (a1 = 2) → ir a1 ∧ (a1 = 4 → (a2 = 0 → Q c 0) ∧ (¬ (a2 = 0) → (il a2 ∧ il 0) ∧ ∀ z8 : Int, z8 = (if 0 < a2 then 1 else -1) → (z8 = 0 → Q c 0) ∧ (¬ (z8 = 0) → ir z8 ∧ Q c 1))) ∧ (¬ (a1 = 4) → ir a1 ∧ Q c a2))))) : WLg K (d + 1) mX9_narrow 0 [(2, 108), (0, a1), (1, a2), (9, 0)] [] c Q := by
  refine R_iload_n (pc' := 1) dX9_narrow_0 rfl rfl ?_
  by_cases hc1 : a1 = 0
  · have h := h.1 hc1
    refine R_neS_if (tgt := 11) (pc' := 4) dX9_narrow_1 (by decide) hc1 rfl ?_
    refine R_lload_n (pc' := 5) dX9_narrow_4 rfl rfl ?_
    refine R_l2i (pc' := 6) dX9_narrow_5 rfl ?_
    refine R_i2b (pc' := 7) dX9_narrow_6 rfl ?_
    have hs2 := h.1
    have h := h.2
    refine R_i2l (pc' := 8) dX9_narrow_7 hs2 rfl ?_
    refine R_goto (tgt := 54) dX9_narrow_8 (by decide) ?_
    exact Q_lret dX9_narrow_54 rfl h
  · have h := h.2 hc1
    refine R_neD_if (tgt := 11) (pc' := 4) dX9_narrow_1 (by decide) hc1 h.1 rfl ?_
    have h := h.2
    refine R_iload_n (pc' := 12) dX9_narrow_11 rfl rfl ?_
    refine R_iconst (pc' := 13) dX9_narrow_12 rfl ?_
    by_cases hc3 : a1 = 1
    · have h := h.1 hc3
      refine R_neS_ic (tgt := 23) (pc' := 16) dX9_narrow_13 (by decide) hc3 rfl ?_
      refine R_lload_n (pc' := 17) dX9_narrow_16 rfl rfl ?_
      refine R_l2i (pc' := 18) dX9_narrow_17 rfl ?_
      refine R_i2s (pc' := 19) dX9_narrow_18 rfl ?_
      have hs4 := h.1
      have h := h.2
      refine R_i2l (pc' := 20) dX9_narrow_19 hs4 rfl ?_
      refine R_goto (tgt := 54) dX9_narrow_20 (by decide) ?_
      exact Q_lret dX9_narrow_54 rfl h
    · have h := h.2 hc3
      refine R_neD_ic (tgt := 23) (pc' := 16) dX9_narrow_13 (by decide) hc3 ⟨h.1, ir_l (by decide) (by decide)⟩ rfl ?_
      have h := h.2
      refine R_iload_n (pc' := 24) dX9_narrow_23 rfl rfl ?_
      refine R_iconst (pc' := 25) dX9_narrow_24 rfl ?_
      by_cases hc5 : a1 = 2
      · have h := h.1 hc5
        refine R_neS_ic (tgt := 34) (pc' := 28) dX9_narrow_25 (by decide) hc5 rfl ?_
        refine R_lload_n (pc' := 29) dX9_narrow_28 rfl rfl ?_
        refine R_l2i (pc' := 30) dX9_narrow_29 rfl ?_
        have hs6 := h.1
        have h := h.2
        refine R_i2l (pc' := 31) dX9_narrow_30 hs6 rfl ?_
        refine R_goto (tgt := 54) dX9_narrow_31 (by decide) ?_
        exact Q_lret dX9_narrow_54 rfl h
      · have h := h.2 hc5
        refine R_neD_ic (tgt := 34) (pc' := 28) dX9_narrow_25 (by decide) hc5 ⟨h.1, ir_l (by decide) (by decide)⟩ rfl ?_
        have h := h.2
        refine R_iload_n (pc' := 35) dX9_narrow_34 rfl rfl ?_
        refine R_iconst (pc' := 36) dX9_narrow_35 rfl ?_
        by_cases hc7 : a1 = 4
        · have h := h.1 hc7
          refine R_neS_ic (tgt := 53) (pc' := 39) dX9_narrow_36 (by decide) hc7 rfl ?_
          refine R_lload_n (pc' := 40) dX9_narrow_39 rfl rfl ?_
          refine R_lconst (x := 0) (pc' := 41) dX9_narrow_40 (by decide) rfl ?_
          by_cases hq10 : a2 = 0
          · have h := h.1 hq10
            refine R_lcmp_eq (pc' := 42) dX9_narrow_41 hq10 rfl ?_
            refine R_eqS_if (tgt := 49) (pc' := 45) dX9_narrow_42 (by decide) rfl rfl ?_
            refine R_lconst (x := 0) (pc' := 50) dX9_narrow_49 (by decide) rfl ?_
            refine R_goto (tgt := 54) dX9_narrow_50 (by decide) ?_
            exact Q_lret dX9_narrow_54 rfl h
          · have h := h.2 hq10
            refine R_lcmp_ne (pc' := 42) dX9_narrow_41 h.1.1 h.1.2 hq10 rfl rfl ?_
            have h := h.2 _ rfl
            generalize (if 0 < a2 then (1 : Int) else -1) = z8 at h ⊢
            by_cases hc9 : z8 = 0
            · have h := h.1 hc9
              refine R_eqS_if (tgt := 49) (pc' := 45) dX9_narrow_42 (by decide) hc9 rfl ?_
              refine R_lconst (x := 0) (pc' := 50) dX9_narrow_49 (by decide) rfl ?_
              refine R_goto (tgt := 54) dX9_narrow_50 (by decide) ?_
              exact Q_lret dX9_narrow_54 rfl h
            · have h := h.2 hc9
              refine R_eqD_if (tgt := 49) (pc' := 45) dX9_narrow_42 (by decide) hc9 h.1 rfl ?_
              have h := h.2
              refine R_lconst (x := 1) (pc' := 46) dX9_narrow_45 (by decide) rfl ?_
              refine R_goto (tgt := 54) dX9_narrow_46 (by decide) ?_
              exact Q_lret dX9_narrow_54 rfl h
        · have h := h.2 hc7
          refine R_neD_ic (tgt := 53) (pc' := 39) dX9_narrow_36 (by decide) hc7 ⟨h.1, ir_l (by decide) (by decide)⟩ rfl ?_
          have h := h.2
          refine R_lload_n (pc' := 54) dX9_narrow_53 rfl rfl ?_
          exact Q_lret dX9_narrow_54 rfl h
theorem e_X9_narrow {K : SK} {d : Nat} {c : ct} {Q : ct → Int → Prop} (a1 : Int) (a2 : Int) (h : WLg K (d + 1) mX9_narrow 0 [(2, 108), (0, a1), (1, a2), (9, 0)] [] c Q) : CL K (d + 1) mX9_narrow [(2, 108), (0, a1), (1, a2)] c Q := CM_ofS (by decide) (Nat.le_of_ble_eq_true rfl) _ rfl h
set_option maxRecDepth 100000 in
theorem s_X9_item_0 {K : SK} {d : Nat} {c : ct} {Q : ct → Int → Prop} (a1 : Int) (a2 : Int) (a3 : Int) (h : CI K d mX9_isTape [(2, 108), (0, a1)] c (fun c1 r2 => (r2 = 0 → Q c1 (-1)) ∧ (¬ (r2 = 0) → ir r2 ∧ ((0 ≤ a1 ∧ a1 < 6)) ∧ (ir (c1 149 a1)) ∧ (0 ≤ (c1 149 a1) → ((0 ≤ a1 ∧ a1 < 6)) ∧ CI K d mX9_in [(2, 108), (0, a2), (0, 0), (0, ((c1 150 a1) - 1))] c1 (fun c8 r9 => (r9 = 0 → Q c8 (-13)) ∧ (¬ (r9 = 0) → ir r9 ∧ ((0 ≤ a1 ∧ a1 < 6)) ∧ CL K d mX9_narrow [(2, 108), (0, (c8 149 a1)), (1, a3)] c8 (fun c12 r13 => ((0 ≤ ((60 * a1) + a2) ∧ ((60 * a1) + a2) < 360)) ∧ ∀ c14 : ct, c14 = up2 c12 151 ((60 * a1) + a2) r13 → Q c14 1)))) ∧ (¬ (0 ≤ (c1 149 a1)) → Q c1 (-11))))) : WI K (d + 1) mX9_item 0 [(2, 108), (0, a1), (0, a2), (1, a3), (9, 0)] [] c Q := by
  refine R_aload_n (pc' := 1) dX9_item_0 rfl i108.1 rfl ?_
  refine R_iload_n (pc' := 2) dX9_item_1 rfl rfl ?_
  refine Q_callVI (vs := [(0, a1)]) (st := []) (pc' := 5) dX9_item_2 l_RX9_433 i108 (by decide) rfl rfl (Nat.le_of_ble_eq_true rfl) rfl (Nat.zero_le _) (Nat.zero_le _) rfl ?_
  refine CI.mono h (fun c1 r2 h => ?_)
  by_cases hc3 : r2 = 0
  · have h := h.1 hc3
    refine R_neS_if (tgt := 10) (pc' := 8) dX9_item_5 (by decide) hc3 rfl ?_
    refine R_iconst (pc' := 9) dX9_item_8 rfl ?_
    exact Q_iret dX9_item_9 rfl h
  · have h := h.2 hc3
    refine R_neD_if (tgt := 10) (pc' := 8) dX9_item_5 (by decide) hc3 h.1 rfl ?_
    have h := h.2
    refine R_aload_n (pc' := 11) dX9_item_10 rfl i108.1 rfl ?_
    refine Q_getfr (v := 149) (J := 74) (pc' := 14) rfl dX9_item_11 l_RX9_235 i108 fd9_74.1 fd9_74.2.1 fd9_74.2.2.1 fd9_74.2.2.2 f108_74 rfl ?_
    refine R_iload_n (pc' := 15) dX9_item_14 rfl rfl ?_
    have hs4 := h.1
    have h := h.2
    refine Q_iaload (N := 6) (pc' := 16) rfl dX9_item_15 i149 (by decide) hs4 rfl ?_
    have hs6 := h.1
    have h := h.2
    refine R_if_ge (tgt := 22) (pc' := 19) dX9_item_16 (by decide) hs6  rfl (fun hc5 => ?_) (fun hc5 => ?_)
    · have h := h.1 hc5
      refine R_aload_n (pc' := 23) dX9_item_22 rfl i108.1 rfl ?_
      refine R_iload_n (pc' := 24) dX9_item_23 rfl rfl ?_
      refine R_iconst (pc' := 25) dX9_item_24 rfl ?_
      refine R_aload_n (pc' := 26) dX9_item_25 rfl i108.1 rfl ?_
      refine Q_getfr (v := 150) (J := 75) (pc' := 29) rfl dX9_item_26 l_RX9_238 i108 fd9_75.1 fd9_75.2.1 fd9_75.2.2.1 fd9_75.2.2.2 f108_75 rfl ?_
      refine R_iload_n (pc' := 30) dX9_item_29 rfl rfl ?_
      have hs7 := h.1
      have h := h.2
      refine Q_iaload (N := 6) (pc' := 31) rfl dX9_item_30 i150 (by decide) hs7 rfl ?_
      refine R_iconst (pc' := 32) dX9_item_31 rfl ?_
      refine R_isub (pc' := 33) dX9_item_32 rfl ?_
      refine Q_callVI (vs := [(0, a2), (0, 0), (0, ((c1 150 a1) - 1))]) (st := []) (pc' := 36) dX9_item_33 l_RX9_252 i108 (by decide) rfl rfl (Nat.le_of_ble_eq_true rfl) rfl (Nat.zero_le _) (Nat.zero_le _) rfl ?_
      refine CI.mono h (fun c8 r9 h => ?_)
      by_cases hc10 : r9 = 0
      · have h := h.1 hc10
        refine R_neS_if (tgt := 42) (pc' := 39) dX9_item_36 (by decide) hc10 rfl ?_
        refine R_bipush (pc' := 41) dX9_item_39 (by decide) rfl ?_
        exact Q_iret dX9_item_41 rfl h
      · have h := h.2 hc10
        refine R_neD_if (tgt := 42) (pc' := 39) dX9_item_36 (by decide) hc10 h.1 rfl ?_
        have h := h.2
        refine R_aload_n (pc' := 43) dX9_item_42 rfl i108.1 rfl ?_
        refine Q_getfr (v := 151) (J := 76) (pc' := 46) rfl dX9_item_43 l_RX9_241 i108 fd9_76.1 fd9_76.2.1 fd9_76.2.2.1 fd9_76.2.2.2 f108_76 rfl ?_
        refine R_bipush (pc' := 48) dX9_item_46 (by decide) rfl ?_
        refine R_iload_n (pc' := 49) dX9_item_48 rfl rfl ?_
        refine R_imul (pc' := 50) dX9_item_49 rfl ?_
        refine R_iload_n (pc' := 51) dX9_item_50 rfl rfl ?_
        refine R_iadd (pc' := 52) dX9_item_51 rfl ?_
        refine R_aload_n (pc' := 53) dX9_item_52 rfl i108.1 rfl ?_
        refine R_aload_n (pc' := 54) dX9_item_53 rfl i108.1 rfl ?_
        refine Q_getfr (v := 149) (J := 74) (pc' := 57) rfl dX9_item_54 l_RX9_235 i108 fd9_74.1 fd9_74.2.1 fd9_74.2.2.1 fd9_74.2.2.2 f108_74 rfl ?_
        refine R_iload_n (pc' := 58) dX9_item_57 rfl rfl ?_
        have hs11 := h.1
        have h := h.2
        refine Q_iaload (N := 6) (pc' := 59) rfl dX9_item_58 i149 (by decide) hs11 rfl ?_
        refine R_lload_n (pc' := 60) dX9_item_59 rfl rfl ?_
        refine Q_callVL (vs := [(0, (c8 149 a1)), (1, a3)]) (st := [(0, ((60 * a1) + a2)), (2, 151)]) (pc' := 63) dX9_item_60 l_RX9_460 i108 (by decide) rfl rfl (Nat.le_of_ble_eq_true rfl) rfl (Nat.zero_le _) (Nat.zero_le _) rfl ?_
        refine CL.mono h (fun c12 r13 h => ?_)
        have hs15 := h.1
        have h := h.2
        refine Q_lastore (N := 360) (pc' := 64) rfl dX9_item_63 i151 (by decide) hs15  rfl (fun c14 hc14 => ?_)
        have h := h c14 hc14
        refine R_iconst (pc' := 65) dX9_item_64 rfl ?_
        exact Q_iret dX9_item_65 rfl h
    · have h := h.2 hc5
      refine R_bipush (pc' := 21) dX9_item_19 (by decide) rfl ?_
      exact Q_iret dX9_item_21 rfl h
theorem e_X9_item {K : SK} {d : Nat} {c : ct} {Q : ct → Int → Prop} (a1 : Int) (a2 : Int) (a3 : Int) (h : WI K (d + 1) mX9_item 0 [(2, 108), (0, a1), (0, a2), (1, a3), (9, 0)] [] c Q) : CI K (d + 1) mX9_item [(2, 108), (0, a1), (0, a2), (1, a3)] c Q := CM_ofS (by decide) (Nat.le_of_ble_eq_true rfl) _ rfl h
set_option maxRecDepth 100000 in
theorem s_X9_read_0 {K : SK} {d : Nat} {c : ct} {Q : ct → Int → Prop} (a1 : Int) (a2 : Int) (h : CI K d mX9_isTape [(2, 108), (0, a1)] c (fun c1 r2 => (r2 = 0 → Q c1 (-9223372036854775808)) ∧ (¬ (r2 = 0) → ir r2 ∧ ((0 ≤ a1 ∧ a1 < 6)) ∧ (ir (c1 149 a1)) ∧ ((c1 149 a1) < 0 → Q c1 (-9223372036854775808)) ∧ (¬ ((c1 149 a1) < 0) → ((0 ≤ a1 ∧ a1 < 6)) ∧ CI K d mX9_in [(2, 108), (0, a2), (0, 0), (0, ((c1 150 a1) - 1))] c1 (fun c8 r9 => (r9 = 0 → Q c8 (-9223372036854775808)) ∧ (¬ (r9 = 0) → ir r9 ∧ ((0 ≤ ((60 * a1) + a2) ∧ ((60 * a1) + a2) < 360)) ∧ Q c8 (c8 151 ((60 * a1) + a2)))))))) : WLg K (d + 1) mX9_read 0 [(2, 108), (0, a1), (0, a2)] [] c Q := by
  refine R_aload_n (pc' := 1) dX9_read_0 rfl i108.1 rfl ?_
  refine R_iload_n (pc' := 2) dX9_read_1 rfl rfl ?_
  refine Q_callVI (vs := [(0, a1)]) (st := []) (pc' := 5) dX9_read_2 l_RX9_433 i108 (by decide) rfl rfl (Nat.le_of_ble_eq_true rfl) rfl (Nat.zero_le _) (Nat.zero_le _) rfl ?_
  refine CI.mono h (fun c1 r2 h => ?_)
  by_cases hc3 : r2 = 0
  · have h := h.1 hc3
    refine R_eqS_if (tgt := 34) (pc' := 8) dX9_read_5 (by decide) hc3 rfl ?_
    refine R_ldc2 (x := (-9223372036854775808)) (pc' := 37) dX9_read_34 l_RX9_427 (by decide) rfl ?_
    refine R_goto (tgt := 51) dX9_read_37 (by decide) ?_
    exact Q_lret dX9_read_51 rfl h
  · have h := h.2 hc3
    refine R_eqD_if (tgt := 34) (pc' := 8) dX9_read_5 (by decide) hc3 h.1 rfl ?_
    have h := h.2
    refine R_aload_n (pc' := 9) dX9_read_8 rfl i108.1 rfl ?_
    refine Q_getfr (v := 149) (J := 74) (pc' := 12) rfl dX9_read_9 l_RX9_235 i108 fd9_74.1 fd9_74.2.1 fd9_74.2.2.1 fd9_74.2.2.2 f108_74 rfl ?_
    refine R_iload_n (pc' := 13) dX9_read_12 rfl rfl ?_
    have hs4 := h.1
    have h := h.2
    refine Q_iaload (N := 6) (pc' := 14) rfl dX9_read_13 i149 (by decide) hs4 rfl ?_
    have hs6 := h.1
    have h := h.2
    refine R_if_lt (tgt := 34) (pc' := 17) dX9_read_14 (by decide) hs6  rfl (fun hc5 => ?_) (fun hc5 => ?_)
    · have h := h.1 hc5
      refine R_ldc2 (x := (-9223372036854775808)) (pc' := 37) dX9_read_34 l_RX9_427 (by decide) rfl ?_
      refine R_goto (tgt := 51) dX9_read_37 (by decide) ?_
      exact Q_lret dX9_read_51 rfl h
    · have h := h.2 hc5
      refine R_aload_n (pc' := 18) dX9_read_17 rfl i108.1 rfl ?_
      refine R_iload_n (pc' := 19) dX9_read_18 rfl rfl ?_
      refine R_iconst (pc' := 20) dX9_read_19 rfl ?_
      refine R_aload_n (pc' := 21) dX9_read_20 rfl i108.1 rfl ?_
      refine Q_getfr (v := 150) (J := 75) (pc' := 24) rfl dX9_read_21 l_RX9_238 i108 fd9_75.1 fd9_75.2.1 fd9_75.2.2.1 fd9_75.2.2.2 f108_75 rfl ?_
      refine R_iload_n (pc' := 25) dX9_read_24 rfl rfl ?_
      have hs7 := h.1
      have h := h.2
      refine Q_iaload (N := 6) (pc' := 26) rfl dX9_read_25 i150 (by decide) hs7 rfl ?_
      refine R_iconst (pc' := 27) dX9_read_26 rfl ?_
      refine R_isub (pc' := 28) dX9_read_27 rfl ?_
      refine Q_callVI (vs := [(0, a2), (0, 0), (0, ((c1 150 a1) - 1))]) (st := []) (pc' := 31) dX9_read_28 l_RX9_252 i108 (by decide) rfl rfl (Nat.le_of_ble_eq_true rfl) rfl (Nat.zero_le _) (Nat.zero_le _) rfl ?_
      refine CI.mono h (fun c8 r9 h => ?_)
      by_cases hc10 : r9 = 0
      · have h := h.1 hc10
        refine R_neS_if (tgt := 40) (pc' := 34) dX9_read_31 (by decide) hc10 rfl ?_
        refine R_ldc2 (x := (-9223372036854775808)) (pc' := 37) dX9_read_34 l_RX9_427 (by decide) rfl ?_
        refine R_goto (tgt := 51) dX9_read_37 (by decide) ?_
        exact Q_lret dX9_read_51 rfl h
      · have h := h.2 hc10
        refine R_neD_if (tgt := 40) (pc' := 34) dX9_read_31 (by decide) hc10 h.1 rfl ?_
        have h := h.2
        refine R_aload_n (pc' := 41) dX9_read_40 rfl i108.1 rfl ?_
        refine Q_getfr (v := 151) (J := 76) (pc' := 44) rfl dX9_read_41 l_RX9_241 i108 fd9_76.1 fd9_76.2.1 fd9_76.2.2.1 fd9_76.2.2.2 f108_76 rfl ?_
        refine R_bipush (pc' := 46) dX9_read_44 (by decide) rfl ?_
        refine R_iload_n (pc' := 47) dX9_read_46 rfl rfl ?_
        refine R_imul (pc' := 48) dX9_read_47 rfl ?_
        refine R_iload_n (pc' := 49) dX9_read_48 rfl rfl ?_
        refine R_iadd (pc' := 50) dX9_read_49 rfl ?_
        have hs11 := h.1
        have h := h.2
        refine Q_laload (N := 360) (pc' := 51) rfl dX9_read_50 i151 (by decide) hs11 rfl ?_
        exact Q_lret dX9_read_51 rfl h
theorem e_X9_read {K : SK} {d : Nat} {c : ct} {Q : ct → Int → Prop} (a1 : Int) (a2 : Int) (h : WLg K (d + 1) mX9_read 0 [(2, 108), (0, a1), (0, a2)] [] c Q) : CL K (d + 1) mX9_read [(2, 108), (0, a1), (0, a2)] c Q := CM_ofS (by decide) (Nat.le_of_ble_eq_true rfl) _ rfl h
set_option maxRecDepth 100000 in
theorem s_X9_shift_0 {K : SK} {d : Nat} {c : ct} {Q : ct → Int → Prop} (a1 : Int) (a2 : Int) (a3 : Int) (a4 : Int) (a5 : Int) (h : CI K d mX9_isTape [(2, 108), (0, a1)] c (fun c1 r2 => (r2 = 0 → Q c1 (-1)) ∧ (¬ (r2 = 0) → ir r2 ∧ CI K d mX9_isTape [(2, 108), (0, a3)] c1 (fun c4 r5 => (r5 = 0 → Q c4 (-1)) ∧ (¬ (r5 = 0) → ir r5 ∧ ((0 ≤ a1 ∧ a1 < 6)) ∧ (ir (c4 149 a1)) ∧ ((c4 149 a1) < 0 → Q c4 (-11)) ∧ (¬ ((c4 149 a1) < 0) → ((0 ≤ a3 ∧ a3 < 6)) ∧ (ir (c4 149 a3)) ∧ (0 ≤ (c4 149 a3) → ((0 ≤ a1 ∧ a1 < 6)) ∧ ((0 ≤ a3 ∧ a3 < 6)) ∧ ((c4 149 a1) = (c4 149 a3) → (ir a5) ∧ (a5 < 0 → Q c4 (-13)) ∧ (¬ (a5 < 0) → (ir a2) ∧ (a2 < 0 → Q c4 (-13)) ∧ (¬ (a2 < 0) → (ir a4) ∧ (a4 < 0 → Q c4 (-13)) ∧ (¬ (a4 < 0) → ((0 ≤ a1 ∧ a1 < 6)) ∧ (ir a2 ∧ ir ((c4 150 a1) - a5)) ∧ (((c4 150 a1) - a5) < a2 → Q c4 (-13)) ∧ (¬ (((c4 150 a1) - a5) < a2) → ((0 ≤ a3 ∧ a3 < 6)) ∧ (ir a4 ∧ ir ((c4 150 a3) - a5)) ∧ (a4 ≤ ((c4 150 a3) - a5) → WI K (d + 1) mX9_shift 104 [(2, 108), (0, a1), (0, a2), (0, a3), (0, a4), (0, a5), (0, 0)] [] c4 Q) ∧ (¬ (a4 ≤ ((c4 150 a3) - a5)) → Q c4 (-13))))))) ∧ (¬ ((c4 149 a1) = (c4 149 a3)) → (ir (c4 149 a1) ∧ ir (c4 149 a3)) ∧ Q c4 (-12))) ∧ (¬ (0 ≤ (c4 149 a3)) → Q c4 (-11)))))))) : WI K (d + 1) mX9_shift 0 [(2, 108), (0, a1), (0, a2), (0, a3), (0, a4), (0, a5), (9, 0)] [] c Q := by
  refine R_aload_n (pc' := 1) dX9_shift_0 rfl i108.1 rfl ?_
  refine R_iload_n (pc' := 2) dX9_shift_1 rfl rfl ?_
  refine Q_callVI (vs := [(0, a1)]) (st := []) (pc' := 5) dX9_shift_2 l_RX9_433 i108 (by decide) rfl rfl (Nat.le_of_ble_eq_true rfl) rfl (Nat.zero_le _) (Nat.zero_le _) rfl ?_
  refine CI.mono h (fun c1 r2 h => ?_)
  by_cases hc3 : r2 = 0
  · have h := h.1 hc3
    refine R_eqS_if (tgt := 16) (pc' := 8) dX9_shift_5 (by decide) hc3 rfl ?_
    refine R_iconst (pc' := 17) dX9_shift_16 rfl ?_
    exact Q_iret dX9_shift_17 rfl h
  · have h := h.2 hc3
    refine R_eqD_if (tgt := 16) (pc' := 8) dX9_shift_5 (by decide) hc3 h.1 rfl ?_
    have h := h.2
    refine R_aload_n (pc' := 9) dX9_shift_8 rfl i108.1 rfl ?_
    refine R_iload_n (pc' := 10) dX9_shift_9 rfl rfl ?_
    refine Q_callVI (vs := [(0, a3)]) (st := []) (pc' := 13) dX9_shift_10 l_RX9_433 i108 (by decide) rfl rfl (Nat.le_of_ble_eq_true rfl) rfl (Nat.zero_le _) (Nat.zero_le _) rfl ?_
    refine CI.mono h (fun c4 r5 h => ?_)
    by_cases hc6 : r5 = 0
    · have h := h.1 hc6
      refine R_neS_if (tgt := 18) (pc' := 16) dX9_shift_13 (by decide) hc6 rfl ?_
      refine R_iconst (pc' := 17) dX9_shift_16 rfl ?_
      exact Q_iret dX9_shift_17 rfl h
    · have h := h.2 hc6
      refine R_neD_if (tgt := 18) (pc' := 16) dX9_shift_13 (by decide) hc6 h.1 rfl ?_
      have h := h.2
      refine R_aload_n (pc' := 19) dX9_shift_18 rfl i108.1 rfl ?_
      refine Q_getfr (v := 149) (J := 74) (pc' := 22) rfl dX9_shift_19 l_RX9_235 i108 fd9_74.1 fd9_74.2.1 fd9_74.2.2.1 fd9_74.2.2.2 f108_74 rfl ?_
      refine R_iload_n (pc' := 23) dX9_shift_22 rfl rfl ?_
      have hs7 := h.1
      have h := h.2
      refine Q_iaload (N := 6) (pc' := 24) rfl dX9_shift_23 i149 (by decide) hs7 rfl ?_
      have hs9 := h.1
      have h := h.2
      refine R_if_lt (tgt := 36) (pc' := 27) dX9_shift_24 (by decide) hs9  rfl (fun hc8 => ?_) (fun hc8 => ?_)
      · have h := h.1 hc8
        refine R_bipush (pc' := 38) dX9_shift_36 (by decide) rfl ?_
        exact Q_iret dX9_shift_38 rfl h
      · have h := h.2 hc8
        refine R_aload_n (pc' := 28) dX9_shift_27 rfl i108.1 rfl ?_
        refine Q_getfr (v := 149) (J := 74) (pc' := 31) rfl dX9_shift_28 l_RX9_235 i108 fd9_74.1 fd9_74.2.1 fd9_74.2.2.1 fd9_74.2.2.2 f108_74 rfl ?_
        refine R_iload_n (pc' := 32) dX9_shift_31 rfl rfl ?_
        have hs10 := h.1
        have h := h.2
        refine Q_iaload (N := 6) (pc' := 33) rfl dX9_shift_32 i149 (by decide) hs10 rfl ?_
        have hs12 := h.1
        have h := h.2
        refine R_if_ge (tgt := 39) (pc' := 36) dX9_shift_33 (by decide) hs12  rfl (fun hc11 => ?_) (fun hc11 => ?_)
        · have h := h.1 hc11
          refine R_aload_n (pc' := 40) dX9_shift_39 rfl i108.1 rfl ?_
          refine Q_getfr (v := 149) (J := 74) (pc' := 43) rfl dX9_shift_40 l_RX9_235 i108 fd9_74.1 fd9_74.2.1 fd9_74.2.2.1 fd9_74.2.2.2 f108_74 rfl ?_
          refine R_iload_n (pc' := 44) dX9_shift_43 rfl rfl ?_
          have hs13 := h.1
          have h := h.2
          refine Q_iaload (N := 6) (pc' := 45) rfl dX9_shift_44 i149 (by decide) hs13 rfl ?_
          refine R_aload_n (pc' := 46) dX9_shift_45 rfl i108.1 rfl ?_
          refine Q_getfr (v := 149) (J := 74) (pc' := 49) rfl dX9_shift_46 l_RX9_235 i108 fd9_74.1 fd9_74.2.1 fd9_74.2.2.1 fd9_74.2.2.2 f108_74 rfl ?_
          refine R_iload_n (pc' := 50) dX9_shift_49 rfl rfl ?_
          have hs14 := h.1
          have h := h.2
          refine Q_iaload (N := 6) (pc' := 51) rfl dX9_shift_50 i149 (by decide) hs14 rfl ?_
          by_cases hc15 : (c4 149 a1) = (c4 149 a3)
          · have h := h.1 hc15
            refine R_eqS_ic (tgt := 57) (pc' := 54) dX9_shift_51 (by decide) hc15 rfl ?_
            refine R_iload (pc' := 59) dX9_shift_57 rfl rfl ?_
            have hs17 := h.1
            have h := h.2
            refine R_if_lt (tgt := 98) (pc' := 62) dX9_shift_59 (by decide) hs17  rfl (fun hc16 => ?_) (fun hc16 => ?_)
            · have h := h.1 hc16
              refine R_bipush (pc' := 100) dX9_shift_98 (by decide) rfl ?_
              exact Q_iret dX9_shift_100 rfl h
            · have h := h.2 hc16
              refine R_iload_n (pc' := 63) dX9_shift_62 rfl rfl ?_
              have hs19 := h.1
              have h := h.2
              refine R_if_lt (tgt := 98) (pc' := 66) dX9_shift_63 (by decide) hs19  rfl (fun hc18 => ?_) (fun hc18 => ?_)
              · have h := h.1 hc18
                refine R_bipush (pc' := 100) dX9_shift_98 (by decide) rfl ?_
                exact Q_iret dX9_shift_100 rfl h
              · have h := h.2 hc18
                refine R_iload (pc' := 68) dX9_shift_66 rfl rfl ?_
                have hs21 := h.1
                have h := h.2
                refine R_if_lt (tgt := 98) (pc' := 71) dX9_shift_68 (by decide) hs21  rfl (fun hc20 => ?_) (fun hc20 => ?_)
                · have h := h.1 hc20
                  refine R_bipush (pc' := 100) dX9_shift_98 (by decide) rfl ?_
                  exact Q_iret dX9_shift_100 rfl h
                · have h := h.2 hc20
                  refine R_iload_n (pc' := 72) dX9_shift_71 rfl rfl ?_
                  refine R_aload_n (pc' := 73) dX9_shift_72 rfl i108.1 rfl ?_
                  refine Q_getfr (v := 150) (J := 75) (pc' := 76) rfl dX9_shift_73 l_RX9_238 i108 fd9_75.1 fd9_75.2.1 fd9_75.2.2.1 fd9_75.2.2.2 f108_75 rfl ?_
                  refine R_iload_n (pc' := 77) dX9_shift_76 rfl rfl ?_
                  have hs22 := h.1
                  have h := h.2
                  refine Q_iaload (N := 6) (pc' := 78) rfl dX9_shift_77 i150 (by decide) hs22 rfl ?_
                  refine R_iload (pc' := 80) dX9_shift_78 rfl rfl ?_
                  refine R_isub (pc' := 81) dX9_shift_80 rfl ?_
                  have hs24 := h.1
                  have h := h.2
                  refine R_icmp_gt (tgt := 98) (pc' := 84) dX9_shift_81 (by decide) hs24.1 hs24.2 rfl (fun hc23 => ?_) (fun hc23 => ?_)
                  · have h := h.1 hc23
                    refine R_bipush (pc' := 100) dX9_shift_98 (by decide) rfl ?_
                    exact Q_iret dX9_shift_100 rfl h
                  · have h := h.2 hc23
                    refine R_iload (pc' := 86) dX9_shift_84 rfl rfl ?_
                    refine R_aload_n (pc' := 87) dX9_shift_86 rfl i108.1 rfl ?_
                    refine Q_getfr (v := 150) (J := 75) (pc' := 90) rfl dX9_shift_87 l_RX9_238 i108 fd9_75.1 fd9_75.2.1 fd9_75.2.2.1 fd9_75.2.2.2 f108_75 rfl ?_
                    refine R_iload_n (pc' := 91) dX9_shift_90 rfl rfl ?_
                    have hs25 := h.1
                    have h := h.2
                    refine Q_iaload (N := 6) (pc' := 92) rfl dX9_shift_91 i150 (by decide) hs25 rfl ?_
                    refine R_iload (pc' := 94) dX9_shift_92 rfl rfl ?_
                    refine R_isub (pc' := 95) dX9_shift_94 rfl ?_
                    have hs27 := h.1
                    have h := h.2
                    refine R_icmp_le (tgt := 101) (pc' := 98) dX9_shift_95 (by decide) hs27.1 hs27.2 rfl (fun hc26 => ?_) (fun hc26 => ?_)
                    · have h := h.1 hc26
                      refine R_iconst (pc' := 102) dX9_shift_101 rfl ?_
                      refine R_istore (L' := [_, _, _, _, _, _, _]) (pc' := 104) dX9_shift_102 (by decide) rfl rfl rfl ?_
                      exact WP_wk (wk_e (wk_e (wk_e (wk_e (wk_e (wk_e (wk_e wk_n))))))) h
                    · have h := h.2 hc26
                      refine R_bipush (pc' := 100) dX9_shift_98 (by decide) rfl ?_
                      exact Q_iret dX9_shift_100 rfl h
          · have h := h.2 hc15
            refine R_eqD_ic (tgt := 57) (pc' := 54) dX9_shift_51 (by decide) hc15 h.1 rfl ?_
            have h := h.2
            refine R_bipush (pc' := 56) dX9_shift_54 (by decide) rfl ?_
            exact Q_iret dX9_shift_56 rfl h
        · have h := h.2 hc11
          refine R_bipush (pc' := 38) dX9_shift_36 (by decide) rfl ?_
          exact Q_iret dX9_shift_38 rfl h
set_option maxRecDepth 100000 in
theorem s_X9_shift_104 {K : SK} {d : Nat} {c : ct} {Q : ct → Int → Prop} (a1 : Int) (a2 : Int) (a3 : Int) (a4 : Int) (a5 : Int) (a6 : Int) (h : (ir a6 ∧ ir a5) ∧ (a5 ≤ a6 → WI K (d + 1) mX9_shift 141 [(2, 108), (9, 0), (9, 0), (0, a3), (0, a4), (0, a5), (0, 0)] [] c Q) ∧ (¬ (a5 ≤ a6) → ((0 ≤ (((60 * a1) + a2) + a6) ∧ (((60 * a1) + a2) + a6) < 360)) ∧ ((0 ≤ a6 ∧ a6 < 60)) ∧ ∀ c4 : ct, c4 = up2 c 152 a6 (c 151 (((60 * a1) + a2) + a6)) → WI K (d + 1) mX9_shift 104 [(2, 108), (0, a1), (0, a2), (0, a3), (0, a4), (0, a5), (0, (a6 + 1))] [] c4 Q)) : WI K (d + 1) mX9_shift 104 [(2, 108), (0, a1), (0, a2), (0, a3), (0, a4), (0, a5), (0, a6)] [] c Q := by
  refine R_iload (pc' := 106) dX9_shift_104 rfl rfl ?_
  refine R_iload (pc' := 108) dX9_shift_106 rfl rfl ?_
  have hs2 := h.1
  have h := h.2
  refine R_icmp_ge (tgt := 138) (pc' := 111) dX9_shift_108 (by decide) hs2.1 hs2.2 rfl (fun hc1 => ?_) (fun hc1 => ?_)
  · have h := h.1 hc1
    refine R_iconst (pc' := 139) dX9_shift_138 rfl ?_
    refine R_istore (L' := [_, _, _, _, _, _, _]) (pc' := 141) dX9_shift_139 (by decide) rfl rfl rfl ?_
    exact WP_wk (wk_e (wk_u (wk_u (wk_e (wk_e (wk_e (wk_e wk_n))))))) h
  · have h := h.2 hc1
    refine R_aload_n (pc' := 112) dX9_shift_111 rfl i108.1 rfl ?_
    refine Q_getfr (v := 152) (J := 77) (pc' := 115) rfl dX9_shift_112 l_RX9_245 i108 fd9_77.1 fd9_77.2.1 fd9_77.2.2.1 fd9_77.2.2.2 f108_77 rfl ?_
    refine R_iload (pc' := 117) dX9_shift_115 rfl rfl ?_
    refine R_aload_n (pc' := 118) dX9_shift_117 rfl i108.1 rfl ?_
    refine Q_getfr (v := 151) (J := 76) (pc' := 121) rfl dX9_shift_118 l_RX9_241 i108 fd9_76.1 fd9_76.2.1 fd9_76.2.2.1 fd9_76.2.2.2 f108_76 rfl ?_
    refine R_bipush (pc' := 123) dX9_shift_121 (by decide) rfl ?_
    refine R_iload_n (pc' := 124) dX9_shift_123 rfl rfl ?_
    refine R_imul (pc' := 125) dX9_shift_124 rfl ?_
    refine R_iload_n (pc' := 126) dX9_shift_125 rfl rfl ?_
    refine R_iadd (pc' := 127) dX9_shift_126 rfl ?_
    refine R_iload (pc' := 129) dX9_shift_127 rfl rfl ?_
    refine R_iadd (pc' := 130) dX9_shift_129 rfl ?_
    have hs3 := h.1
    have h := h.2
    refine Q_laload (N := 360) (pc' := 131) rfl dX9_shift_130 i151 (by decide) hs3 rfl ?_
    have hs5 := h.1
    have h := h.2
    refine Q_lastore (N := 60) (pc' := 132) rfl dX9_shift_131 i152 (by decide) hs5  rfl (fun c4 hc4 => ?_)
    have h := h c4 hc4
    refine R_iinc (L' := [_, _, _, _, _, _, _]) (pc' := 135) dX9_shift_132 rfl (by decide) rfl rfl rfl ?_
    refine R_goto (tgt := 104) dX9_shift_135 (by decide) ?_
    exact WP_wk (wk_e (wk_e (wk_e (wk_e (wk_e (wk_e (wk_e wk_n))))))) h
set_option maxRecDepth 100000 in
theorem s_X9_shift_141 {K : SK} {d : Nat} {c : ct} {Q : ct → Int → Prop} (a3 : Int) (a4 : Int) (a5 : Int) (a6 : Int) (h : (ir a6 ∧ ir a5) ∧ (a5 ≤ a6 → Q c a5) ∧ (¬ (a5 ≤ a6) → ((0 ≤ a6 ∧ a6 < 60)) ∧ ((0 ≤ (((60 * a3) + a4) + a6) ∧ (((60 * a3) + a4) + a6) < 360)) ∧ ∀ c4 : ct, c4 = up2 c 151 (((60 * a3) + a4) + a6) (c 152 a6) → WI K (d + 1) mX9_shift 141 [(2, 108), (9, 0), (9, 0), (0, a3), (0, a4), (0, a5), (0, (a6 + 1))] [] c4 Q)) : WI K (d + 1) mX9_shift 141 [(2, 108), (9, 0), (9, 0), (0, a3), (0, a4), (0, a5), (0, a6)] [] c Q := by
  refine R_iload (pc' := 143) dX9_shift_141 rfl rfl ?_
  refine R_iload (pc' := 145) dX9_shift_143 rfl rfl ?_
  have hs2 := h.1
  have h := h.2
  refine R_icmp_ge (tgt := 176) (pc' := 148) dX9_shift_145 (by decide) hs2.1 hs2.2 rfl (fun hc1 => ?_) (fun hc1 => ?_)
  · have h := h.1 hc1
    refine R_iload (pc' := 178) dX9_shift_176 rfl rfl ?_
    exact Q_iret dX9_shift_178 rfl h
  · have h := h.2 hc1
    refine R_aload_n (pc' := 149) dX9_shift_148 rfl i108.1 rfl ?_
    refine Q_getfr (v := 151) (J := 76) (pc' := 152) rfl dX9_shift_149 l_RX9_241 i108 fd9_76.1 fd9_76.2.1 fd9_76.2.2.1 fd9_76.2.2.2 f108_76 rfl ?_
    refine R_bipush (pc' := 154) dX9_shift_152 (by decide) rfl ?_
    refine R_iload_n (pc' := 155) dX9_shift_154 rfl rfl ?_
    refine R_imul (pc' := 156) dX9_shift_155 rfl ?_
    refine R_iload (pc' := 158) dX9_shift_156 rfl rfl ?_
    refine R_iadd (pc' := 159) dX9_shift_158 rfl ?_
    refine R_iload (pc' := 161) dX9_shift_159 rfl rfl ?_
    refine R_iadd (pc' := 162) dX9_shift_161 rfl ?_
    refine R_aload_n (pc' := 163) dX9_shift_162 rfl i108.1 rfl ?_
    refine Q_getfr (v := 152) (J := 77) (pc' := 166) rfl dX9_shift_163 l_RX9_245 i108 fd9_77.1 fd9_77.2.1 fd9_77.2.2.1 fd9_77.2.2.2 f108_77 rfl ?_
    refine R_iload (pc' := 168) dX9_shift_166 rfl rfl ?_
    have hs3 := h.1
    have h := h.2
    refine Q_laload (N := 60) (pc' := 169) rfl dX9_shift_168 i152 (by decide) hs3 rfl ?_
    have hs5 := h.1
    have h := h.2
    refine Q_lastore (N := 360) (pc' := 170) rfl dX9_shift_169 i151 (by decide) hs5  rfl (fun c4 hc4 => ?_)
    have h := h c4 hc4
    refine R_iinc (L' := [_, _, _, _, _, _, _]) (pc' := 173) dX9_shift_170 rfl (by decide) rfl rfl rfl ?_
    refine R_goto (tgt := 141) dX9_shift_173 (by decide) ?_
    exact WP_wk (wk_e (wk_u (wk_u (wk_e (wk_e (wk_e (wk_e wk_n))))))) h
theorem e_X9_shift {K : SK} {d : Nat} {c : ct} {Q : ct → Int → Prop} (a1 : Int) (a2 : Int) (a3 : Int) (a4 : Int) (a5 : Int) (h : WI K (d + 1) mX9_shift 0 [(2, 108), (0, a1), (0, a2), (0, a3), (0, a4), (0, a5), (9, 0)] [] c Q) : CI K (d + 1) mX9_shift [(2, 108), (0, a1), (0, a2), (0, a3), (0, a4), (0, a5)] c Q := CM_ofS (by decide) (Nat.le_of_ble_eq_true rfl) _ rfl h
