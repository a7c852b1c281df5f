set_option maxRecDepth 100000 in
theorem s_X8_guest_0 {K : SK} {d : Nat} {c : ct} {Q : ct → Int → Prop} (a1 : Int) (a2 : Int) (h : (ir a1) ∧ (a1 < 0 → Q c (-1)) ∧ (¬ (a1 < 0) → (ir a1) ∧ (a1 < 7 → CI K d mX8_isDigit [(0, a2)] c (fun c5 r6 => (r6 = 0 → Q c5 (-2)) ∧ (¬ (r6 = 0) → ir r6 ∧ (ir (c5 24 10)) ∧ ((c5 24 10) < 6 → CI K d mX6_takeIn [(2, 24), (0, a1), (0, a2)] c5 (fun c10 r11 => Q c10 r11)) ∧ (¬ ((c5 24 10) < 6) → Q c5 (-4))))) ∧ (¬ (a1 < 7) → Q c (-1)))) : WI K (d + 1) mX8_guest 0 [(2, 0), (0, a1), (0, a2)] [] c Q := by
  refine R_iload_n (pc' := 1) dX8_guest_0 rfl rfl ?_
  have hs2 := h.1
  have h := h.2
  refine R_if_lt (tgt := 10) (pc' := 4) dX8_guest_1 (by decide) hs2  rfl (fun hc1 => ?_) (fun hc1 => ?_)
  · have h := h.1 hc1
    refine R_iconst (pc' := 11) dX8_guest_10 rfl ?_
    exact Q_iret dX8_guest_11 rfl h
  · have h := h.2 hc1
    refine R_iload_n (pc' := 5) dX8_guest_4 rfl rfl ?_
    refine R_bipush (pc' := 7) dX8_guest_5 (by decide) rfl ?_
    have hs4 := h.1
    have h := h.2
    refine R_icmp_lt (tgt := 12) (pc' := 10) dX8_guest_7 (by decide) hs4 (ir_l (by decide) (by decide)) rfl (fun hc3 => ?_) (fun hc3 => ?_)
    · have h := h.1 hc3
      refine R_iload_n (pc' := 13) dX8_guest_12 rfl rfl ?_
      refine Q_callSI (vs := [(0, a2)]) (st := []) (pc' := 16) dX8_guest_13 l_RX8_71 rfl (Nat.le_of_ble_eq_true rfl) rfl (Nat.zero_le _) (Nat.zero_le _) rfl ?_
      refine CI.mono h (fun c5 r6 h => ?_)
      by_cases hc7 : r6 = 0
      · have h := h.1 hc7
        refine R_neS_if (tgt := 22) (pc' := 19) dX8_guest_16 (by decide) hc7 rfl ?_
        refine R_bipush (pc' := 21) dX8_guest_19 (by decide) rfl ?_
        exact Q_iret dX8_guest_21 rfl h
      · have h := h.2 hc7
        refine R_neD_if (tgt := 22) (pc' := 19) dX8_guest_16 (by decide) hc7 h.1 rfl ?_
        have h := h.2
        refine R_aload_n (pc' := 23) dX8_guest_22 rfl i0.1 rfl ?_
        refine Q_getfr (v := 11) (J := 0) (pc' := 26) rfl dX8_guest_23 l_RX8_47 i0 fd8_0.1 fd8_0.2.1 fd8_0.2.2.1 fd8_0.2.2.2 f0_0 rfl ?_
        refine Q_getfNr (v := 24) (J := 0) (pc' := 29) rfl dX8_guest_26 l_RX8_75 i11 fd1_0.1 fd1_0.2.1 fd1_0.2.2.1 fd1_0.2.2.2 f11_0 rfl ?_
        refine Q_getfNi (J := 10) (pc' := 32) rfl dX8_guest_29 l_RX8_78 i24 fd6_10.1 fd6_10.2.1 fd6_10.2.2.1 rfl ?_
        refine R_bipush (pc' := 34) dX8_guest_32 (by decide) rfl ?_
        have hs9 := h.1
        have h := h.2
        refine R_icmp_lt (tgt := 40) (pc' := 37) dX8_guest_34 (by decide) hs9 (ir_l (by decide) (by decide)) rfl (fun hc8 => ?_) (fun hc8 => ?_)
        · have h := h.1 hc8
          refine R_aload_n (pc' := 41) dX8_guest_40 rfl i0.1 rfl ?_
          refine Q_getfr (v := 11) (J := 0) (pc' := 44) rfl dX8_guest_41 l_RX8_47 i0 fd8_0.1 fd8_0.2.1 fd8_0.2.2.1 fd8_0.2.2.2 f0_0 rfl ?_
          refine Q_getfNr (v := 24) (J := 0) (pc' := 47) rfl dX8_guest_44 l_RX8_75 i11 fd1_0.1 fd1_0.2.1 fd1_0.2.2.1 fd1_0.2.2.2 f11_0 rfl ?_
          refine R_iload_n (pc' := 48) dX8_guest_47 rfl rfl ?_
          refine R_iload_n (pc' := 49) dX8_guest_48 rfl rfl ?_
          refine Q_callVI (vs := [(0, a1), (0, a2)]) (st := []) (pc' := 52) dX8_guest_49 l_RX8_82 i24 (by decide) rfl rfl (Nat.le_of_ble_eq_true rfl) rfl (Nat.zero_le _) (Nat.zero_le _) rfl ?_
          refine CI.mono h (fun c10 r11 h => ?_)
          exact Q_iret dX8_guest_52 rfl h
        · have h := h.2 hc8
          refine R_bipush (pc' := 39) dX8_guest_37 (by decide) rfl ?_
          exact Q_iret dX8_guest_39 rfl h
    · have h := h.2 hc3
      refine R_iconst (pc' := 11) dX8_guest_10 rfl ?_
      exact Q_iret dX8_guest_11 rfl h
theorem e_X8_guest {K : SK} {d : Nat} {c : ct} {Q : ct → Int → Prop} (a1 : Int) (a2 : Int) (h : WI K (d + 1) mX8_guest 0 [(2, 0), (0, a1), (0, a2)] [] c Q) : CI K (d + 1) mX8_guest [(2, 0), (0, a1), (0, a2)] c Q := CM_ofS (by decide) (Nat.le_of_ble_eq_true rfl) _ rfl h
set_option maxRecDepth 100000 in
theorem s_X8_of_0 {K : SK} {d : Nat} {c : ct} {Q : ct → Int → Prop} (a1 : Int) (a2 : Int) (h : CI K d mX8_isGuest [(2, 0), (0, a1)] c (fun c1 r2 => (r2 = 0 → Q c1 (-10001)) ∧ (¬ (r2 = 0) → ir r2 ∧ ir a2 ∧ (a2 = 0 → ((0 ≤ a1 ∧ a1 < 6)) ∧ Q c1 (c1 25 a1)) ∧ (a2 = 1 → ((0 ≤ a1 ∧ a1 < 6)) ∧ Q c1 (c1 26 a1)) ∧ (a2 = 2 → ((0 ≤ a1 ∧ a1 < 6)) ∧ Q c1 (c1 27 a1)) ∧ (a2 = 3 → ((0 ≤ a1 ∧ a1 < 6)) ∧ CI K d mX8_oneIf [(0, (c1 29 a1))] c1 (fun c12 r13 => Q c12 r13)) ∧ (a2 = 4 → ((0 ≤ a1 ∧ a1 < 6)) ∧ Q c1 (c1 28 a1)) ∧ (a2 = 5 → ((0 ≤ a1 ∧ a1 < 6)) ∧ CI K d mX8_oneIf [(0, (c1 30 a1))] c1 (fun c18 r19 => Q c18 r19)) ∧ (a2 = 6 → CI K d mX6_neighbours [(2, 24), (0, a1)] c1 (fun c21 r22 => Q c21 r22)) ∧ (a2 = 7 → CI K d mX6_fondOf [(2, 24), (0, a1)] c1 (fun c24 r25 => Q c24 r25)) ∧ ((a2 < 0 ∨ 7 < a2) → Q c1 (-10001))))) : WI K (d + 1) mX8_of 0 [(2, 0), (0, a1), (0, a2), (9, 0)] [] c Q := by
  refine R_aload_n (pc' := 1) dX8_of_0 rfl i0.1 rfl ?_
  refine R_iload_n (pc' := 2) dX8_of_1 rfl rfl ?_
  refine Q_callVI (vs := [(0, a1)]) (st := []) (pc' := 5) dX8_of_2 l_RX8_86 i0 (by decide) rfl rfl (Nat.le_of_ble_eq_true rfl) rfl (Nat.zero_le _) (Nat.zero_le _) rfl ?_
  refine CI.mono h (fun c1 r2 h => ?_)
  by_cases hc3 : r2 = 0
  · have h := h.1 hc3
    refine R_neS_if (tgt := 12) (pc' := 8) dX8_of_5 (by decide) hc3 rfl ?_
    refine R_sipush (pc' := 11) dX8_of_8 (by decide) rfl ?_
    exact Q_iret dX8_of_11 rfl h
  · have h := h.2 hc3
    refine R_neD_if (tgt := 12) (pc' := 8) dX8_of_5 (by decide) hc3 h.1 rfl ?_
    have h := h.2
    refine R_aload_n (pc' := 13) dX8_of_12 rfl i0.1 rfl ?_
    refine Q_getfr (v := 11) (J := 0) (pc' := 16) rfl dX8_of_13 l_RX8_47 i0 fd8_0.1 fd8_0.2.1 fd8_0.2.2.1 fd8_0.2.2.2 f0_0 rfl ?_
    refine Q_getfNr (v := 24) (J := 0) (pc' := 19) rfl dX8_of_16 l_RX8_75 i11 fd1_0.1 fd1_0.2.1 fd1_0.2.2.1 fd1_0.2.2.2 f11_0 rfl ?_
    refine R_astore_n (L' := [_, _, _, _]) (pc' := 20) dX8_of_19 i24.1 (by decide) rfl rfl rfl ?_
    refine R_iload_n (pc' := 21) dX8_of_20 rfl rfl ?_
    have hs0 := h.1
    have h := h.2
    rcases (show a2 = 0 ∨ a2 = 1 ∨ a2 = 2 ∨ a2 = 3 ∨ a2 = 4 ∨ a2 = 5 ∨ a2 = 6 ∨ a2 = 7 ∨ (a2 < 0 ∨ 7 < a2) by omega) with hk | hk | hk | hk | hk | hk | hk | hk | hk
    · have h := h.1 hk
      refine R_tableAt (tgt := 68) 0 hk dX8_of_21 (ir_l (by decide) (by decide)) (by decide) rfl (by decide) ?_
      refine R_aload_n (pc' := 69) dX8_of_68 rfl i24.1 rfl ?_
      refine Q_getfNr (v := 25) (J := 0) (pc' := 72) rfl dX8_of_69 l_RX8_89 i24 fd6_0.1 fd6_0.2.1 fd6_0.2.2.1 fd6_0.2.2.2 f24_0 rfl ?_
      refine R_iload_n (pc' := 73) dX8_of_72 rfl rfl ?_
      have hs5 := h.1
      have h := h.2
      refine Q_iaload (N := 6) (pc' := 74) rfl dX8_of_73 i25 (by decide) hs5 rfl ?_
      exact Q_iret dX8_of_74 rfl h
    · have h := h.2.1 hk
      refine R_tableAt (tgt := 75) 1 hk dX8_of_21 (ir_l (by decide) (by decide)) (by decide) rfl (by decide) ?_
      refine R_aload_n (pc' := 76) dX8_of_75 rfl i24.1 rfl ?_
      refine Q_getfNr (v := 26) (J := 1) (pc' := 79) rfl dX8_of_76 l_RX8_93 i24 fd6_1.1 fd6_1.2.1 fd6_1.2.2.1 fd6_1.2.2.2 f24_1 rfl ?_
      refine R_iload_n (pc' := 80) dX8_of_79 rfl rfl ?_
      have hs7 := h.1
      have h := h.2
      refine Q_iaload (N := 6) (pc' := 81) rfl dX8_of_80 i26 (by decide) hs7 rfl ?_
      exact Q_iret dX8_of_81 rfl h
    · have h := h.2.2.1 hk
      refine R_tableAt (tgt := 82) 2 hk dX8_of_21 (ir_l (by decide) (by decide)) (by decide) rfl (by decide) ?_
      refine R_aload_n (pc' := 83) dX8_of_82 rfl i24.1 rfl ?_
      refine Q_getfNr (v := 27) (J := 2) (pc' := 86) rfl dX8_of_83 l_RX8_96 i24 fd6_2.1 fd6_2.2.1 fd6_2.2.2.1 fd6_2.2.2.2 f24_2 rfl ?_
      refine R_iload_n (pc' := 87) dX8_of_86 rfl rfl ?_
      have hs9 := h.1
      have h := h.2
      refine Q_iaload (N := 6) (pc' := 88) rfl dX8_of_87 i27 (by decide) hs9 rfl ?_
      exact Q_iret dX8_of_88 rfl h
    · have h := h.2.2.2.1 hk
      refine R_tableAt (tgt := 89) 3 hk dX8_of_21 (ir_l (by decide) (by decide)) (by decide) rfl (by decide) ?_
      refine R_aload_n (pc' := 90) dX8_of_89 rfl i24.1 rfl ?_
      refine Q_getfNr (v := 29) (J := 4) (pc' := 93) rfl dX8_of_90 l_RX8_99 i24 fd6_4.1 fd6_4.2.1 fd6_4.2.2.1 fd6_4.2.2.2 f24_4 rfl ?_
      refine R_iload_n (pc' := 94) dX8_of_93 rfl rfl ?_
      have hs11 := h.1
      have h := h.2
      refine Q_zaload (N := 6) (pc' := 95) rfl dX8_of_94 i29 (by decide) hs11 rfl ?_
      refine Q_callSI (vs := [(0, (c1 29 a1))]) (st := []) (pc' := 98) dX8_of_95 l_RX8_103 rfl (Nat.le_of_ble_eq_true rfl) rfl (Nat.zero_le _) (Nat.zero_le _) rfl ?_
      refine CI.mono h (fun c12 r13 h => ?_)
      exact Q_iret dX8_of_98 rfl h
    · have h := h.2.2.2.2.1 hk
      refine R_tableAt (tgt := 99) 4 hk dX8_of_21 (ir_l (by decide) (by decide)) (by decide) rfl (by decide) ?_
      refine R_aload_n (pc' := 100) dX8_of_99 rfl i24.1 rfl ?_
      refine Q_getfNr (v := 28) (J := 3) (pc' := 103) rfl dX8_of_100 l_RX8_107 i24 fd6_3.1 fd6_3.2.1 fd6_3.2.2.1 fd6_3.2.2.2 f24_3 rfl ?_
      refine R_iload_n (pc' := 104) dX8_of_103 rfl rfl ?_
      have hs15 := h.1
      have h := h.2
      refine Q_iaload (N := 6) (pc' := 105) rfl dX8_of_104 i28 (by decide) hs15 rfl ?_
      exact Q_iret dX8_of_105 rfl h
    · have h := h.2.2.2.2.2.1 hk
      refine R_tableAt (tgt := 106) 5 hk dX8_of_21 (ir_l (by decide) (by decide)) (by decide) rfl (by decide) ?_
      refine R_aload_n (pc' := 107) dX8_of_106 rfl i24.1 rfl ?_
      refine Q_getfNr (v := 30) (J := 5) (pc' := 110) rfl dX8_of_107 l_RX8_110 i24 fd6_5.1 fd6_5.2.1 fd6_5.2.2.1 fd6_5.2.2.2 f24_5 rfl ?_
      refine R_iload_n (pc' := 111) dX8_of_110 rfl rfl ?_
      have hs17 := h.1
      have h := h.2
      refine Q_zaload (N := 6) (pc' := 112) rfl dX8_of_111 i30 (by decide) hs17 rfl ?_
      refine Q_callSI (vs := [(0, (c1 30 a1))]) (st := []) (pc' := 115) dX8_of_112 l_RX8_103 rfl (Nat.le_of_ble_eq_true rfl) rfl (Nat.zero_le _) (Nat.zero_le _) rfl ?_
      refine CI.mono h (fun c18 r19 h => ?_)
      exact Q_iret dX8_of_115 rfl h
    · have h := h.2.2.2.2.2.2.1 hk
      refine R_tableAt (tgt := 116) 6 hk dX8_of_21 (ir_l (by decide) (by decide)) (by decide) rfl (by decide) ?_
      refine R_aload_n (pc' := 117) dX8_of_116 rfl i24.1 rfl ?_
      refine R_iload_n (pc' := 118) dX8_of_117 rfl rfl ?_
      refine Q_callVI (vs := [(0, a1)]) (st := []) (pc' := 121) dX8_of_118 l_RX8_113 i24 (by decide) rfl rfl (Nat.le_of_ble_eq_true rfl) rfl (Nat.zero_le _) (Nat.zero_le _) rfl ?_
      refine CI.mono h (fun c21 r22 h => ?_)
      exact Q_iret dX8_of_121 rfl h
    · have h := h.2.2.2.2.2.2.2.1 hk
      refine R_tableAt (tgt := 122) 7 hk dX8_of_21 (ir_l (by decide) (by decide)) (by decide) rfl (by decide) ?_
      refine R_aload_n (pc' := 123) dX8_of_122 rfl i24.1 rfl ?_
      refine R_iload_n (pc' := 124) dX8_of_123 rfl rfl ?_
      refine Q_callVI (vs := [(0, a1)]) (st := []) (pc' := 127) dX8_of_124 l_RX8_117 i24 (by decide) rfl rfl (Nat.le_of_ble_eq_true rfl) rfl (Nat.zero_le _) (Nat.zero_le _) rfl ?_
      refine CI.mono h (fun c24 r25 h => ?_)
      exact Q_iret dX8_of_127 rfl h
    · have h := h.2.2.2.2.2.2.2.2 hk
      refine R_tableOut (tgt := 128) dX8_of_21 hs0 hk (by decide) ?_
      refine R_sipush (pc' := 131) dX8_of_128 (by decide) rfl ?_
      exact Q_iret dX8_of_131 rfl h
theorem e_X8_of {K : SK} {d : Nat} {c : ct} {Q : ct → Int → Prop} (a1 : Int) (a2 : Int) (h : WI K (d + 1) mX8_of 0 [(2, 0), (0, a1), (0, a2), (9, 0)] [] c Q) : CI K (d + 1) mX8_of [(2, 0), (0, a1), (0, a2)] c Q := CM_ofS (by decide) (Nat.le_of_ble_eq_true rfl) _ rfl h
set_option maxRecDepth 100000 in
theorem s_X8_likes_0 {K : SK} {d : Nat} {c : ct} {Q : ct → Int → Prop} (a1 : Int) (a2 : Int) (h : CI K d mX8_isGuest [(2, 0), (0, a1)] c (fun c1 r2 => (r2 = 0 → Q c1 (-10001)) ∧ (¬ (r2 = 0) → ir r2 ∧ CI K d mX8_isGuest [(2, 0), (0, a2)] c1 (fun c4 r5 => (r5 = 0 → Q c4 (-10001)) ∧ (¬ (r5 = 0) → ir r5 ∧ (a1 = a2 → Q c4 (-10002)) ∧ (¬ (a1 = a2) → (ir a1 ∧ ir a2) ∧ CI K d mX6_liking [(2, 24), (0, a1), (0, a2)] c4 (fun c8 r9 => Q c8 r9))))))) : WI K (d + 1) mX8_likes 0 [(2, 0), (0, a1), (0, a2)] [] c Q := by
  refine R_aload_n (pc' := 1) dX8_likes_0 rfl i0.1 rfl ?_
  refine R_iload_n (pc' := 2) dX8_likes_1 rfl rfl ?_
  refine Q_callVI (vs := [(0, a1)]) (st := []) (pc' := 5) dX8_likes_2 l_RX8_86 i0 (by decide) rfl rfl (Nat.le_of_ble_eq_true rfl) rfl (Nat.zero_le _) (Nat.zero_le _) rfl ?_
  refine CI.mono h (fun c1 r2 h => ?_)
  by_cases hc3 : r2 = 0
  · have h := h.1 hc3
    refine R_eqS_if (tgt := 16) (pc' := 8) dX8_likes_5 (by decide) hc3 rfl ?_
    refine R_sipush (pc' := 19) dX8_likes_16 (by decide) rfl ?_
    exact Q_iret dX8_likes_19 rfl h
  · have h := h.2 hc3
    refine R_eqD_if (tgt := 16) (pc' := 8) dX8_likes_5 (by decide) hc3 h.1 rfl ?_
    have h := h.2
    refine R_aload_n (pc' := 9) dX8_likes_8 rfl i0.1 rfl ?_
    refine R_iload_n (pc' := 10) dX8_likes_9 rfl rfl ?_
    refine Q_callVI (vs := [(0, a2)]) (st := []) (pc' := 13) dX8_likes_10 l_RX8_86 i0 (by decide) rfl rfl (Nat.le_of_ble_eq_true rfl) rfl (Nat.zero_le _) (Nat.zero_le _) rfl ?_
    refine CI.mono h (fun c4 r5 h => ?_)
    by_cases hc6 : r5 = 0
    · have h := h.1 hc6
      refine R_neS_if (tgt := 20) (pc' := 16) dX8_likes_13 (by decide) hc6 rfl ?_
      refine R_sipush (pc' := 19) dX8_likes_16 (by decide) rfl ?_
      exact Q_iret dX8_likes_19 rfl h
    · have h := h.2 hc6
      refine R_neD_if (tgt := 20) (pc' := 16) dX8_likes_13 (by decide) hc6 h.1 rfl ?_
      have h := h.2
      refine R_iload_n (pc' := 21) dX8_likes_20 rfl rfl ?_
      refine R_iload_n (pc' := 22) dX8_likes_21 rfl rfl ?_
      by_cases hc7 : a1 = a2
      · have h := h.1 hc7
        refine R_neS_ic (tgt := 29) (pc' := 25) dX8_likes_22 (by decide) hc7 rfl ?_
        refine R_sipush (pc' := 28) dX8_likes_25 (by decide) rfl ?_
        exact Q_iret dX8_likes_28 rfl h
      · have h := h.2 hc7
        refine R_neD_ic (tgt := 29) (pc' := 25) dX8_likes_22 (by decide) hc7 h.1 rfl ?_
        have h := h.2
        refine R_aload_n (pc' := 30) dX8_likes_29 rfl i0.1 rfl ?_
        refine Q_getfr (v := 11) (J := 0) (pc' := 33) rfl dX8_likes_30 l_RX8_47 i0 fd8_0.1 fd8_0.2.1 fd8_0.2.2.1 fd8_0.2.2.2 f0_0 rfl ?_
        refine Q_getfNr (v := 24) (J := 0) (pc' := 36) rfl dX8_likes_33 l_RX8_75 i11 fd1_0.1 fd1_0.2.1 fd1_0.2.2.1 fd1_0.2.2.2 f11_0 rfl ?_
        refine R_iload_n (pc' := 37) dX8_likes_36 rfl rfl ?_
        refine R_iload_n (pc' := 38) dX8_likes_37 rfl rfl ?_
        refine Q_callVI (vs := [(0, a1), (0, a2)]) (st := []) (pc' := 41) dX8_likes_38 l_RX8_120 i24 (by decide) rfl rfl (Nat.le_of_ble_eq_true rfl) rfl (Nat.zero_le _) (Nat.zero_le _) rfl ?_
        refine CI.mono h (fun c8 r9 h => ?_)
        exact Q_iret dX8_likes_41 rfl h
theorem e_X8_likes {K : SK} {d : Nat} {c : ct} {Q : ct → Int → Prop} (a1 : Int) (a2 : Int) (h : WI K (d + 1) mX8_likes 0 [(2, 0), (0, a1), (0, a2)] [] c Q) : CI K (d + 1) mX8_likes [(2, 0), (0, a1), (0, a2)] c Q := CM_ofS (by decide) (Nat.le_of_ble_eq_true rfl) _ rfl h
set_option maxRecDepth 100000 in
theorem s_X8_sit_0 {K : SK} {d : Nat} {c : ct} {Q : ct → Int → Prop} (a1 : Int) (a2 : Int) (h : CI K d mX8_isGuest [(2, 0), (0, a1)] c (fun c1 r2 => (r2 = 0 → Q c1 (-10001)) ∧ (¬ (r2 = 0) → ir r2 ∧ CI K d mX8_isSeat [(0, a2)] c1 (fun c4 r5 => (r5 = 0 → Q c4 (-10001)) ∧ (¬ (r5 = 0) → ir r5 ∧ CV K d mX6_moveTo [(2, 24), (0, a1), (0, a2)] c4 (fun c7 => CI K d mX6_fondOf [(2, 24), (0, a1)] c7 (fun c9 r10 => Q c9 r10))))))) : WI K (d + 1) mX8_sit 0 [(2, 0), (0, a1), (0, a2)] [] c Q := by
  refine R_aload_n (pc' := 1) dX8_sit_0 rfl i0.1 rfl ?_
  refine R_iload_n (pc' := 2) dX8_sit_1 rfl rfl ?_
  refine Q_callVI (vs := [(0, a1)]) (st := []) (pc' := 5) dX8_sit_2 l_RX8_86 i0 (by decide) rfl rfl (Nat.le_of_ble_eq_true rfl) rfl (Nat.zero_le _) (Nat.zero_le _) rfl ?_
  refine CI.mono h (fun c1 r2 h => ?_)
  by_cases hc3 : r2 = 0
  · have h := h.1 hc3
    refine R_eqS_if (tgt := 15) (pc' := 8) dX8_sit_5 (by decide) hc3 rfl ?_
    refine R_sipush (pc' := 18) dX8_sit_15 (by decide) rfl ?_
    exact Q_iret dX8_sit_18 rfl h
  · have h := h.2 hc3
    refine R_eqD_if (tgt := 15) (pc' := 8) dX8_sit_5 (by decide) hc3 h.1 rfl ?_
    have h := h.2
    refine R_iload_n (pc' := 9) dX8_sit_8 rfl rfl ?_
    refine Q_callSI (vs := [(0, a2)]) (st := []) (pc' := 12) dX8_sit_9 l_RX8_123 rfl (Nat.le_of_ble_eq_true rfl) rfl (Nat.zero_le _) (Nat.zero_le _) rfl ?_
    refine CI.mono h (fun c4 r5 h => ?_)
    by_cases hc6 : r5 = 0
    · have h := h.1 hc6
      refine R_neS_if (tgt := 19) (pc' := 15) dX8_sit_12 (by decide) hc6 rfl ?_
      refine R_sipush (pc' := 18) dX8_sit_15 (by decide) rfl ?_
      exact Q_iret dX8_sit_18 rfl h
    · have h := h.2 hc6
      refine R_neD_if (tgt := 19) (pc' := 15) dX8_sit_12 (by decide) hc6 h.1 rfl ?_
      have h := h.2
      refine R_aload_n (pc' := 20) dX8_sit_19 rfl i0.1 rfl ?_
      refine Q_getfr (v := 11) (J := 0) (pc' := 23) rfl dX8_sit_20 l_RX8_47 i0 fd8_0.1 fd8_0.2.1 fd8_0.2.2.1 fd8_0.2.2.2 f0_0 rfl ?_
      refine Q_getfNr (v := 24) (J := 0) (pc' := 26) rfl dX8_sit_23 l_RX8_75 i11 fd1_0.1 fd1_0.2.1 fd1_0.2.2.1 fd1_0.2.2.2 f11_0 rfl ?_
      refine R_iload_n (pc' := 27) dX8_sit_26 rfl rfl ?_
      refine R_iload_n (pc' := 28) dX8_sit_27 rfl rfl ?_
      refine Q_callVV (vs := [(0, a1), (0, a2)]) (st := []) (pc' := 31) dX8_sit_28 l_RX8_126 i24 (by decide) rfl rfl (Nat.le_of_ble_eq_true rfl) rfl (Nat.zero_le _) (Nat.zero_le _) rfl ?_
      refine CV.mono h (fun c7 h => ?_)
      refine R_aload_n (pc' := 32) dX8_sit_31 rfl i0.1 rfl ?_
      refine Q_getfr (v := 11) (J := 0) (pc' := 35) rfl dX8_sit_32 l_RX8_47 i0 fd8_0.1 fd8_0.2.1 fd8_0.2.2.1 fd8_0.2.2.2 f0_0 rfl ?_
      refine Q_getfNr (v := 24) (J := 0) (pc' := 38) rfl dX8_sit_35 l_RX8_75 i11 fd1_0.1 fd1_0.2.1 fd1_0.2.2.1 fd1_0.2.2.2 f11_0 rfl ?_
      refine R_iload_n (pc' := 39) dX8_sit_38 rfl rfl ?_
      refine Q_callVI (vs := [(0, a1)]) (st := []) (pc' := 42) dX8_sit_39 l_RX8_117 i24 (by decide) rfl rfl (Nat.le_of_ble_eq_true rfl) rfl (Nat.zero_le _) (Nat.zero_le _) rfl ?_
      refine CI.mono h (fun c9 r10 h => ?_)
      exact Q_iret dX8_sit_42 rfl h
theorem e_X8_sit {K : SK} {d : Nat} {c : ct} {Q : ct → Int → Prop} (a1 : Int) (a2 : Int) (h : WI K (d + 1) mX8_sit 0 [(2, 0), (0, a1), (0, a2)] [] c Q) : CI K (d + 1) mX8_sit [(2, 0), (0, a1), (0, a2)] c Q := CM_ofS (by decide) (Nat.le_of_ble_eq_true rfl) _ rfl h
set_option maxRecDepth 100000 in
theorem s_X8_leave_0 {K : SK} {d : Nat} {c : ct} {Q : ct → Int → Prop} (a1 : Int) (a2 : Int) (h : CI K d mX8_isGuest [(2, 0), (0, a1)] c (fun c1 r2 => (r2 = 0 → Q c1 (-1)) ∧ (¬ (r2 = 0) → ir r2 ∧ ((0 ≤ a1 ∧ a1 < 6)) ∧ CI K d mX8_oneIf [(0, (c1 30 a1))] c1 (fun c5 r6 => ((0 ≤ a1 ∧ a1 < 6) ∧ (a2 = 0 ∨ a2 = 1)) ∧ ∀ c7 : ct, c7 = up2 c5 30 a1 a2 → Q c7 r6)))) : WI K (d + 1) mX8_leave 0 [(2, 0), (0, a1), (0, a2), (9, 0)] [] c Q := by
  refine R_aload_n (pc' := 1) dX8_leave_0 rfl i0.1 rfl ?_
  refine R_iload_n (pc' := 2) dX8_leave_1 rfl rfl ?_
  refine Q_callVI (vs := [(0, a1)]) (st := []) (pc' := 5) dX8_leave_2 l_RX8_86 i0 (by decide) rfl rfl (Nat.le_of_ble_eq_true rfl) rfl (Nat.zero_le _) (Nat.zero_le _) rfl ?_
  refine CI.mono h (fun c1 r2 h => ?_)
  by_cases hc3 : r2 = 0
  · have h := h.1 hc3
    refine R_neS_if (tgt := 10) (pc' := 8) dX8_leave_5 (by decide) hc3 rfl ?_
    refine R_iconst (pc' := 9) dX8_leave_8 rfl ?_
    exact Q_iret dX8_leave_9 rfl h
  · have h := h.2 hc3
    refine R_neD_if (tgt := 10) (pc' := 8) dX8_leave_5 (by decide) hc3 h.1 rfl ?_
    have h := h.2
    refine R_aload_n (pc' := 11) dX8_leave_10 rfl i0.1 rfl ?_
    refine Q_getfr (v := 11) (J := 0) (pc' := 14) rfl dX8_leave_11 l_RX8_47 i0 fd8_0.1 fd8_0.2.1 fd8_0.2.2.1 fd8_0.2.2.2 f0_0 rfl ?_
    refine Q_getfNr (v := 24) (J := 0) (pc' := 17) rfl dX8_leave_14 l_RX8_75 i11 fd1_0.1 fd1_0.2.1 fd1_0.2.2.1 fd1_0.2.2.2 f11_0 rfl ?_
    refine Q_getfNr (v := 30) (J := 5) (pc' := 20) rfl dX8_leave_17 l_RX8_110 i24 fd6_5.1 fd6_5.2.1 fd6_5.2.2.1 fd6_5.2.2.2 f24_5 rfl ?_
    refine R_iload_n (pc' := 21) dX8_leave_20 rfl rfl ?_
    have hs4 := h.1
    have h := h.2
    refine Q_zaload (N := 6) (pc' := 22) rfl dX8_leave_21 i30 (by decide) hs4 rfl ?_
    refine Q_callSI (vs := [(0, (c1 30 a1))]) (st := []) (pc' := 25) dX8_leave_22 l_RX8_103 rfl (Nat.le_of_ble_eq_true rfl) rfl (Nat.zero_le _) (Nat.zero_le _) rfl ?_
    refine CI.mono h (fun c5 r6 h => ?_)
    refine R_istore_n (L' := [_, _, _, _]) (pc' := 26) dX8_leave_25 (by decide) rfl rfl rfl ?_
    refine R_aload_n (pc' := 27) dX8_leave_26 rfl i0.1 rfl ?_
    refine Q_getfr (v := 11) (J := 0) (pc' := 30) rfl dX8_leave_27 l_RX8_47 i0 fd8_0.1 fd8_0.2.1 fd8_0.2.2.1 fd8_0.2.2.2 f0_0 rfl ?_
    refine Q_getfNr (v := 24) (J := 0) (pc' := 33) rfl dX8_leave_30 l_RX8_75 i11 fd1_0.1 fd1_0.2.1 fd1_0.2.2.1 fd1_0.2.2.2 f11_0 rfl ?_
    refine Q_getfNr (v := 30) (J := 5) (pc' := 36) rfl dX8_leave_33 l_RX8_110 i24 fd6_5.1 fd6_5.2.1 fd6_5.2.2.1 fd6_5.2.2.2 f24_5 rfl ?_
    refine R_iload_n (pc' := 37) dX8_leave_36 rfl rfl ?_
    refine R_iload_n (pc' := 38) dX8_leave_37 rfl rfl ?_
    have hs8 := h.1
    have h := h.2
    refine Q_zastore (N := 6) (pc' := 39) rfl dX8_leave_38 i30 (by decide) hs8.1 hs8.2 rfl (fun c7 hc7 => ?_)
    have h := h c7 hc7
    refine R_iload_n (pc' := 40) dX8_leave_39 rfl rfl ?_
    exact Q_iret dX8_leave_40 rfl h
theorem e_X8_leave {K : SK} {d : Nat} {c : ct} {Q : ct → Int → Prop} (a1 : Int) (a2 : Int) (h : WI K (d + 1) mX8_leave 0 [(2, 0), (0, a1), (0, a2), (9, 0)] [] c Q) : CI K (d + 1) mX8_leave [(2, 0), (0, a1), (0, a2)] c Q := CM_ofS (by decide) (Nat.le_of_ble_eq_true rfl) _ rfl h
set_option maxRecDepth 100000 in
theorem s_X8_pour_0 {K : SK} {d : Nat} {c : ct} {Q : ct → Int → Prop} (a1 : Int) (h : CI K d mX8_isSeat [(0, a1)] c (fun c1 r2 => (r2 = 0 → Q c1 (-1)) ∧ (¬ (r2 = 0) → ir r2 ∧ CV K d mX6_pourAt [(2, 24), (0, a1)] c1 (fun c4 => CI K d mX6_emptyCups [(2, 24)] c4 (fun c6 r7 => CI K d mJ6_bitCount_0f7a4 [(0, r7)] c6 (fun c8 r9 => Q c8 r9)))))) : WI K (d + 1) mX8_pour 0 [(2, 0), (0, a1)] [] c Q := by
  refine R_iload_n (pc' := 1) dX8_pour_0 rfl rfl ?_
  refine Q_callSI (vs := [(0, a1)]) (st := []) (pc' := 4) dX8_pour_1 l_RX8_123 rfl (Nat.le_of_ble_eq_true rfl) rfl (Nat.zero_le _) (Nat.zero_le _) rfl ?_
  refine CI.mono h (fun c1 r2 h => ?_)
  by_cases hc3 : r2 = 0
  · have h := h.1 hc3
    refine R_neS_if (tgt := 9) (pc' := 7) dX8_pour_4 (by decide) hc3 rfl ?_
    refine R_iconst (pc' := 8) dX8_pour_7 rfl ?_
    exact Q_iret dX8_pour_8 rfl h
  · have h := h.2 hc3
    refine R_neD_if (tgt := 9) (pc' := 7) dX8_pour_4 (by decide) hc3 h.1 rfl ?_
    have h := h.2
    refine R_aload_n (pc' := 10) dX8_pour_9 rfl i0.1 rfl ?_
    refine Q_getfr (v := 11) (J := 0) (pc' := 13) rfl dX8_pour_10 l_RX8_47 i0 fd8_0.1 fd8_0.2.1 fd8_0.2.2.1 fd8_0.2.2.2 f0_0 rfl ?_
    refine Q_getfNr (v := 24) (J := 0) (pc' := 16) rfl dX8_pour_13 l_RX8_75 i11 fd1_0.1 fd1_0.2.1 fd1_0.2.2.1 fd1_0.2.2.2 f11_0 rfl ?_
    refine R_iload_n (pc' := 17) dX8_pour_16 rfl rfl ?_
    refine Q_callVV (vs := [(0, a1)]) (st := []) (pc' := 20) dX8_pour_17 l_RX8_130 i24 (by decide) rfl rfl (Nat.le_of_ble_eq_true rfl) rfl (Nat.zero_le _) (Nat.zero_le _) rfl ?_
    refine CV.mono h (fun c4 h => ?_)
    refine R_aload_n (pc' := 21) dX8_pour_20 rfl i0.1 rfl ?_
    refine Q_getfr (v := 11) (J := 0) (pc' := 24) rfl dX8_pour_21 l_RX8_47 i0 fd8_0.1 fd8_0.2.1 fd8_0.2.2.1 fd8_0.2.2.2 f0_0 rfl ?_
    refine Q_getfNr (v := 24) (J := 0) (pc' := 27) rfl dX8_pour_24 l_RX8_75 i11 fd1_0.1 fd1_0.2.1 fd1_0.2.2.1 fd1_0.2.2.2 f11_0 rfl ?_
    refine Q_callVI (vs := []) (st := []) (pc' := 30) dX8_pour_27 l_RX8_134 i24 (by decide) rfl rfl (Nat.le_of_ble_eq_true rfl) rfl (Nat.zero_le _) (Nat.zero_le _) rfl ?_
    refine CI.mono h (fun c6 r7 h => ?_)
    refine Q_callSI (vs := [(0, r7)]) (st := []) (pc' := 33) dX8_pour_30 l_RX8_138 rfl (Nat.le_of_ble_eq_true rfl) rfl (Nat.zero_le _) (Nat.zero_le _) rfl ?_
    refine CI.mono h (fun c8 r9 h => ?_)
    exact Q_iret dX8_pour_33 rfl h
theorem e_X8_pour {K : SK} {d : Nat} {c : ct} {Q : ct → Int → Prop} (a1 : Int) (h : WI K (d + 1) mX8_pour 0 [(2, 0), (0, a1)] [] c Q) : CI K (d + 1) mX8_pour [(2, 0), (0, a1)] c Q := CM_ofS (by decide) (Nat.le_of_ble_eq_true rfl) _ rfl h
set_option maxRecDepth 100000 in
theorem s_X8_row_0 {K : SK} {d : Nat} {c : ct} {Q : ct → Int → Prop} (a1 : Int) (a2 : Int) (a3 : Int) (h : CI K d mX8_isGuest [(2, 0), (0, a1)] c (fun c1 r2 => (r2 = 0 → Q c1 (-1)) ∧ (¬ (r2 = 0) → ir r2 ∧ (ir a2) ∧ (a2 < 0 → Q c1 (-1)) ∧ (¬ (a2 < 0) → (ir a2) ∧ (a2 < 4 → CI K d mX8_isDigit [(0, a3)] c1 (fun c8 r9 => (r9 = 0 → Q c8 (-2)) ∧ (¬ (r9 = 0) → ir r9 ∧ ((0 ≤ a1 ∧ a1 < 6)) ∧ ((c8 25 a1) = 6 → ((0 ≤ ((a1 * 4) + a2) ∧ ((a1 * 4) + a2) < 24)) ∧ ((0 ≤ ((a1 * 4) + a2) ∧ ((a1 * 4) + a2) < 24)) ∧ ∀ c14 : ct, c14 = up2 c8 31 ((a1 * 4) + a2) a3 → Q c14 (c8 31 ((a1 * 4) + a2))) ∧ (¬ ((c8 25 a1) = 6) → ir (c8 25 a1) ∧ Q c8 (-3))))) ∧ (¬ (a2 < 4) → Q c1 (-1)))))) : WI K (d + 1) mX8_row 0 [(2, 0), (0, a1), (0, a2), (0, a3), (9, 0), (9, 0)] [] c Q := by
  refine R_aload_n (pc' := 1) dX8_row_0 rfl i0.1 rfl ?_
  refine R_iload_n (pc' := 2) dX8_row_1 rfl rfl ?_
  refine Q_callVI (vs := [(0, a1)]) (st := []) (pc' := 5) dX8_row_2 l_RX8_86 i0 (by decide) rfl rfl (Nat.le_of_ble_eq_true rfl) rfl (Nat.zero_le _) (Nat.zero_le _) rfl ?_
  refine CI.mono h (fun c1 r2 h => ?_)
  by_cases hc3 : r2 = 0
  · have h := h.1 hc3
    refine R_eqS_if (tgt := 17) (pc' := 8) dX8_row_5 (by decide) hc3 rfl ?_
    refine R_iconst (pc' := 18) dX8_row_17 rfl ?_
    exact Q_iret dX8_row_18 rfl h
  · have h := h.2 hc3
    refine R_eqD_if (tgt := 17) (pc' := 8) dX8_row_5 (by decide) hc3 h.1 rfl ?_
    have h := h.2
    refine R_iload_n (pc' := 9) dX8_row_8 rfl rfl ?_
    have hs5 := h.1
    have h := h.2
    refine R_if_lt (tgt := 17) (pc' := 12) dX8_row_9 (by decide) hs5  rfl (fun hc4 => ?_) (fun hc4 => ?_)
    · have h := h.1 hc4
      refine R_iconst (pc' := 18) dX8_row_17 rfl ?_
      exact Q_iret dX8_row_18 rfl h
    · have h := h.2 hc4
      refine R_iload_n (pc' := 13) dX8_row_12 rfl rfl ?_
      refine R_iconst (pc' := 14) dX8_row_13 rfl ?_
      have hs7 := h.1
      have h := h.2
      refine R_icmp_lt (tgt := 19) (pc' := 17) dX8_row_14 (by decide) hs7 (ir_l (by decide) (by decide)) rfl (fun hc6 => ?_) (fun hc6 => ?_)
      · have h := h.1 hc6
        refine R_iload_n (pc' := 20) dX8_row_19 rfl rfl ?_
        refine Q_callSI (vs := [(0, a3)]) (st := []) (pc' := 23) dX8_row_20 l_RX8_71 rfl (Nat.le_of_ble_eq_true rfl) rfl (Nat.zero_le _) (Nat.zero_le _) rfl ?_
        refine CI.mono h (fun c8 r9 h => ?_)
        by_cases hc10 : r9 = 0
        · have h := h.1 hc10
          refine R_neS_if (tgt := 29) (pc' := 26) dX8_row_23 (by decide) hc10 rfl ?_
          refine R_bipush (pc' := 28) dX8_row_26 (by decide) rfl ?_
          exact Q_iret dX8_row_28 rfl h
        · have h := h.2 hc10
          refine R_neD_if (tgt := 29) (pc' := 26) dX8_row_23 (by decide) hc10 h.1 rfl ?_
          have h := h.2
          refine R_aload_n (pc' := 30) dX8_row_29 rfl i0.1 rfl ?_
          refine Q_getfr (v := 11) (J := 0) (pc' := 33) rfl dX8_row_30 l_RX8_47 i0 fd8_0.1 fd8_0.2.1 fd8_0.2.2.1 fd8_0.2.2.2 f0_0 rfl ?_
          refine Q_getfNr (v := 24) (J := 0) (pc' := 36) rfl dX8_row_33 l_RX8_75 i11 fd1_0.1 fd1_0.2.1 fd1_0.2.2.1 fd1_0.2.2.2 f11_0 rfl ?_
          refine Q_getfNr (v := 25) (J := 0) (pc' := 39) rfl dX8_row_36 l_RX8_89 i24 fd6_0.1 fd6_0.2.1 fd6_0.2.2.1 fd6_0.2.2.2 f24_0 rfl ?_
          refine R_iload_n (pc' := 40) dX8_row_39 rfl rfl ?_
          have hs11 := h.1
          have h := h.2
          refine Q_iaload (N := 6) (pc' := 41) rfl dX8_row_40 i25 (by decide) hs11 rfl ?_
          refine R_bipush (pc' := 43) dX8_row_41 (by decide) rfl ?_
          by_cases hc12 : (c8 25 a1) = 6
          · have h := h.1 hc12
            refine R_eqS_ic (tgt := 49) (pc' := 46) dX8_row_43 (by decide) hc12 rfl ?_
            refine R_iload_n (pc' := 50) dX8_row_49 rfl rfl ?_
            refine R_iconst (pc' := 51) dX8_row_50 rfl ?_
            refine R_imul (pc' := 52) dX8_row_51 rfl ?_
            refine R_iload_n (pc' := 53) dX8_row_52 rfl rfl ?_
            refine R_iadd (pc' := 54) dX8_row_53 rfl ?_
            refine R_istore (L' := [_, _, _, _, _, _]) (pc' := 56) dX8_row_54 (by decide) rfl rfl rfl ?_
            refine R_aload_n (pc' := 57) dX8_row_56 rfl i0.1 rfl ?_
            refine Q_getfr (v := 11) (J := 0) (pc' := 60) rfl dX8_row_57 l_RX8_47 i0 fd8_0.1 fd8_0.2.1 fd8_0.2.2.1 fd8_0.2.2.2 f0_0 rfl ?_
            refine Q_getfNr (v := 24) (J := 0) (pc' := 63) rfl dX8_row_60 l_RX8_75 i11 fd1_0.1 fd1_0.2.1 fd1_0.2.2.1 fd1_0.2.2.2 f11_0 rfl ?_
            refine Q_getfNr (v := 31) (J := 6) (pc' := 66) rfl dX8_row_63 l_RX8_143 i24 fd6_6.1 fd6_6.2.1 fd6_6.2.2.1 fd6_6.2.2.2 f24_6 rfl ?_
            refine R_iload (pc' := 68) dX8_row_66 rfl rfl ?_
            have hs13 := h.1
            have h := h.2
            refine Q_iaload (N := 24) (pc' := 69) rfl dX8_row_68 i31 (by decide) hs13 rfl ?_
            refine R_istore (L' := [_, _, _, _, _, _]) (pc' := 71) dX8_row_69 (by decide) rfl rfl rfl ?_
            refine R_aload_n (pc' := 72) dX8_row_71 rfl i0.1 rfl ?_
            refine Q_getfr (v := 11) (J := 0) (pc' := 75) rfl dX8_row_72 l_RX8_47 i0 fd8_0.1 fd8_0.2.1 fd8_0.2.2.1 fd8_0.2.2.2 f0_0 rfl ?_
            refine Q_getfNr (v := 24) (J := 0) (pc' := 78) rfl dX8_row_75 l_RX8_75 i11 fd1_0.1 fd1_0.2.1 fd1_0.2.2.1 fd1_0.2.2.2 f11_0 rfl ?_
            refine Q_getfNr (v := 31) (J := 6) (pc' := 81) rfl dX8_row_78 l_RX8_143 i24 fd6_6.1 fd6_6.2.1 fd6_6.2.2.1 fd6_6.2.2.2 f24_6 rfl ?_
            refine R_iload (pc' := 83) dX8_row_81 rfl rfl ?_
            refine R_iload_n (pc' := 84) dX8_row_83 rfl rfl ?_
            have hs15 := h.1
            have h := h.2
            refine Q_iastore (N := 24) (pc' := 85) rfl dX8_row_84 i31 (by decide) hs15  rfl (fun c14 hc14 => ?_)
            have h := h c14 hc14
            refine R_iload (pc' := 87) dX8_row_85 rfl rfl ?_
            exact Q_iret dX8_row_87 rfl h
          · have h := h.2 hc12
            refine R_eqD_ic (tgt := 49) (pc' := 46) dX8_row_43 (by decide) hc12 ⟨h.1, ir_l (by decide) (by decide)⟩ rfl ?_
            have h := h.2
            refine R_bipush (pc' := 48) dX8_row_46 (by decide) rfl ?_
            exact Q_iret dX8_row_48 rfl h
      · have h := h.2 hc6
        refine R_iconst (pc' := 18) dX8_row_17 rfl ?_
        exact Q_iret dX8_row_18 rfl h
theorem e_X8_row {K : SK} {d : Nat} {c : ct} {Q : ct → Int → Prop} (a1 : Int) (a2 : Int) (a3 : Int) (h : WI K (d + 1) mX8_row 0 [(2, 0), (0, a1), (0, a2), (0, a3), (9, 0), (9, 0)] [] c Q) : CI K (d + 1) mX8_row [(2, 0), (0, a1), (0, a2), (0, a3)] c Q := CM_ofS (by decide) (Nat.le_of_ble_eq_true rfl) _ rfl h
set_option maxRecDepth 100000 in
theorem s_X8_feed_0 {K : SK} {d : Nat} {c : ct} {Q : ct → Int → Prop} (a1 : Int) (h : (ir a1) ∧ (a1 < 0 → Q c (-2)) ∧ (¬ (a1 < 0) → (ir a1) ∧ (a1 ≤ 127 → (ir (c 0 5)) ∧ ((c 0 5) < 100 → ((0 ≤ (c 0 5) ∧ (c 0 5) < 100) ∧ (-128 ≤ (toB a1) ∧ (toB a1) ≤ 127)) ∧ ∀ c7 : ct, c7 = up2 c 1 (c 0 5) (toB a1) → ∀ c9 : ct, c9 = up2 c7 0 5 ((c7 0 5) + 1) → Q c9 (c9 0 5)) ∧ (¬ ((c 0 5) < 100) → Q c (-4))) ∧ (¬ (a1 ≤ 127) → Q c (-2)))) : WI K (d + 1) mX8_feed 0 [(2, 0), (0, a1)] [] c Q := by
  refine R_iload_n (pc' := 1) dX8_feed_0 rfl rfl ?_
  have hs2 := h.1
  have h := h.2
  refine R_if_lt (tgt := 10) (pc' := 4) dX8_feed_1 (by decide) hs2  rfl (fun hc1 => ?_) (fun hc1 => ?_)
  · have h := h.1 hc1
    refine R_bipush (pc' := 12) dX8_feed_10 (by decide) rfl ?_
    exact Q_iret dX8_feed_12 rfl h
  · have h := h.2 hc1
    refine R_iload_n (pc' := 5) dX8_feed_4 rfl rfl ?_
    refine R_bipush (pc' := 7) dX8_feed_5 (by decide) rfl ?_
    have hs4 := h.1
    have h := h.2
    refine R_icmp_le (tgt := 13) (pc' := 10) dX8_feed_7 (by decide) hs4 (ir_l (by decide) (by decide)) rfl (fun hc3 => ?_) (fun hc3 => ?_)
    · have h := h.1 hc3
      refine R_aload_n (pc' := 14) dX8_feed_13 rfl i0.1 rfl ?_
      refine Q_getfi (J := 5) (pc' := 17) rfl dX8_feed_14 l_RX8_146 i0 fd8_5.1 fd8_5.2.1 fd8_5.2.2.1 rfl ?_
      refine R_bipush (pc' := 19) dX8_feed_17 (by decide) rfl ?_
      have hs6 := h.1
      have h := h.2
      refine R_icmp_lt (tgt := 25) (pc' := 22) dX8_feed_19 (by decide) hs6 (ir_l (by decide) (by decide)) rfl (fun hc5 => ?_) (fun hc5 => ?_)
      · have h := h.1 hc5
        refine R_aload_n (pc' := 26) dX8_feed_25 rfl i0.1 rfl ?_
        refine Q_getfr (v := 1) (J := 4) (pc' := 29) rfl dX8_feed_26 l_RX8_11 i0 fd8_4.1 fd8_4.2.1 fd8_4.2.2.1 fd8_4.2.2.2 f0_4 rfl ?_
        refine R_aload_n (pc' := 30) dX8_feed_29 rfl i0.1 rfl ?_
        refine Q_getfi (J := 5) (pc' := 33) rfl dX8_feed_30 l_RX8_146 i0 fd8_5.1 fd8_5.2.1 fd8_5.2.2.1 rfl ?_
        refine R_iload_n (pc' := 34) dX8_feed_33 rfl rfl ?_
        refine R_i2b (pc' := 35) dX8_feed_34 rfl ?_
        have hs8 := h.1
        have h := h.2
        refine Q_bastore (N := 100) (pc' := 36) rfl dX8_feed_35 i1 (by decide) hs8.1 hs8.2 rfl (fun c7 hc7 => ?_)
        have h := h c7 hc7
        refine R_aload_n (pc' := 37) dX8_feed_36 rfl i0.1 rfl ?_
        refine R_dup (pc' := 38) dX8_feed_37 (by simp) rfl ?_
        refine Q_getfi (J := 5) (pc' := 41) rfl dX8_feed_38 l_RX8_146 i0 fd8_5.1 fd8_5.2.1 fd8_5.2.2.1 rfl ?_
        refine R_iconst (pc' := 42) dX8_feed_41 rfl ?_
        refine R_iadd (pc' := 43) dX8_feed_42 rfl ?_
        refine Q_putfi (J := 5) (pc' := 46) rfl dX8_feed_43 l_RX8_146 i0 fd8_5.1 fd8_5.2.1 fd8_5.2.2.2.1 fd8_5.2.2.2.2 rfl (fun c9 hc9 => ?_)
        have h := h c9 hc9
        refine R_aload_n (pc' := 47) dX8_feed_46 rfl i0.1 rfl ?_
        refine Q_getfi (J := 5) (pc' := 50) rfl dX8_feed_47 l_RX8_146 i0 fd8_5.1 fd8_5.2.1 fd8_5.2.2.1 rfl ?_
        exact Q_iret dX8_feed_50 rfl h
      · have h := h.2 hc5
        refine R_bipush (pc' := 24) dX8_feed_22 (by decide) rfl ?_
        exact Q_iret dX8_feed_24 rfl h
    · have h := h.2 hc3
      refine R_bipush (pc' := 12) dX8_feed_10 (by decide) rfl ?_
      exact Q_iret dX8_feed_12 rfl h
theorem e_X8_feed {K : SK} {d : Nat} {c : ct} {Q : ct → Int → Prop} (a1 : Int) (h : WI K (d + 1) mX8_feed 0 [(2, 0), (0, a1)] [] c Q) : CI K (d + 1) mX8_feed [(2, 0), (0, a1)] c Q := CM_ofS (by decide) (Nat.le_of_ble_eq_true rfl) _ rfl h
set_option maxRecDepth 100000 in
theorem s_X8_house_0 {K : SK} {d : Nat} {c : ct} {Q : ct → Int → Prop}  (h : (ir (c 0 7)) ∧ ((c 0 7) < 6 → ((0 ≤ (c 0 7) ∧ (c 0 7) < 6)) ∧ CI K d mX4_readInto [(2, 3), (2, (72 + 4 * (c 0 7))), (2, 1), (0, (c 0 5))] c (fun c4 r5 => ∀ c6 : ct, c6 = up2 c4 0 5 0 → (ir r5) ∧ (r5 < 0 → CV K d mX6_hold [(2, 24), (2, (72 + 4 * (c 0 7)))] c6 (fun c9 => ∀ c11 : ct, c11 = up2 c9 0 7 ((c9 0 7) + 1) → Q c11 ((c11 0 7) - 1))) ∧ (¬ (r5 < 0) → Q c6 ((-10) - r5)))) ∧ (¬ ((c 0 7) < 6) → Q c (-4))) : WI K (d + 1) mX8_house 0 [(2, 0), (9, 0), (9, 0)] [] c Q := by
  refine R_aload_n (pc' := 1) dX8_house_0 rfl i0.1 rfl ?_
  refine Q_getfi (J := 7) (pc' := 4) rfl dX8_house_1 l_RX8_149 i0 fd8_7.1 fd8_7.2.1 fd8_7.2.2.1 rfl ?_
  refine R_bipush (pc' := 6) dX8_house_4 (by decide) rfl ?_
  have hs2 := h.1
  have h := h.2
  refine R_icmp_lt (tgt := 12) (pc' := 9) dX8_house_6 (by decide) hs2 (ir_l (by decide) (by decide)) rfl (fun hc1 => ?_) (fun hc1 => ?_)
  · have h := h.1 hc1
    refine R_aload_n (pc' := 13) dX8_house_12 rfl i0.1 rfl ?_
    refine Q_getfr (v := 2) (J := 6) (pc' := 16) rfl dX8_house_13 l_RX8_17 i0 fd8_6.1 fd8_6.2.1 fd8_6.2.2.1 fd8_6.2.2.2 f0_6 rfl ?_
    refine R_aload_n (pc' := 17) dX8_house_16 rfl i0.1 rfl ?_
    refine Q_getfi (J := 7) (pc' := 20) rfl dX8_house_17 l_RX8_149 i0 fd8_7.1 fd8_7.2.1 fd8_7.2.2.1 rfl ?_
    have hs3 := h.1
    have h := h.2
    refine Q_aaload14 (v := (72 + 4 * (c 0 7))) (N := 6) (pc' := 21) rfl dX8_house_20 i2 (by decide) hs3 (f2 hs3.1 hs3.2) rfl ?_
    refine R_astore_n (L' := [_, _, _]) (pc' := 22) dX8_house_21 (hou_s (hou_at hs3.1 hs3.2)).1 (by decide) rfl rfl rfl ?_
    refine R_aload_n (pc' := 23) dX8_house_22 rfl i0.1 rfl ?_
    refine Q_getfr (v := 3) (J := 8) (pc' := 26) rfl dX8_house_23 l_RX8_24 i0 fd8_8.1 fd8_8.2.1 fd8_8.2.2.1 fd8_8.2.2.2 f0_8 rfl ?_
    refine R_aload_n (pc' := 27) dX8_house_26 rfl (hou_s (hou_at hs3.1 hs3.2)).1 rfl ?_
    refine R_aload_n (pc' := 28) dX8_house_27 rfl i0.1 rfl ?_
    refine Q_getfr (v := 1) (J := 4) (pc' := 31) rfl dX8_house_28 l_RX8_11 i0 fd8_4.1 fd8_4.2.1 fd8_4.2.2.1 fd8_4.2.2.2 f0_4 rfl ?_
    refine R_aload_n (pc' := 32) dX8_house_31 rfl i0.1 rfl ?_
    refine Q_getfi (J := 5) (pc' := 35) rfl dX8_house_32 l_RX8_146 i0 fd8_5.1 fd8_5.2.1 fd8_5.2.2.1 rfl ?_
    refine Q_callVI (vs := [(2, (72 + 4 * (c 0 7))), (2, 1), (0, (c 0 5))]) (st := []) (pc' := 38) dX8_house_35 l_RX8_152 i3 (by decide) rfl rfl (Nat.le_of_ble_eq_true rfl) rfl (Nat.zero_le _) (Nat.zero_le _) rfl ?_
    refine CI.mono h (fun c4 r5 h => ?_)
    refine R_istore_n (L' := [_, _, _]) (pc' := 39) dX8_house_38 (by decide) rfl rfl rfl ?_
    refine R_aload_n (pc' := 40) dX8_house_39 rfl i0.1 rfl ?_
    refine R_iconst (pc' := 41) dX8_house_40 rfl ?_
    refine Q_putfi (J := 5) (pc' := 44) rfl dX8_house_41 l_RX8_146 i0 fd8_5.1 fd8_5.2.1 fd8_5.2.2.2.1 fd8_5.2.2.2.2 rfl (fun c6 hc6 => ?_)
    have h := h c6 hc6
    refine R_iload_n (pc' := 45) dX8_house_44 rfl rfl ?_
    have hs8 := h.1
    have h := h.2
    refine R_if_lt (tgt := 53) (pc' := 48) dX8_house_45 (by decide) hs8  rfl (fun hc7 => ?_) (fun hc7 => ?_)
    · have h := h.1 hc7
      refine R_aload_n (pc' := 54) dX8_house_53 rfl i0.1 rfl ?_
      refine Q_getfr (v := 11) (J := 0) (pc' := 57) rfl dX8_house_54 l_RX8_47 i0 fd8_0.1 fd8_0.2.1 fd8_0.2.2.1 fd8_0.2.2.2 f0_0 rfl ?_
      refine Q_getfNr (v := 24) (J := 0) (pc' := 60) rfl dX8_house_57 l_RX8_75 i11 fd1_0.1 fd1_0.2.1 fd1_0.2.2.1 fd1_0.2.2.2 f11_0 rfl ?_
      refine R_aload_n (pc' := 61) dX8_house_60 rfl (hou_s (hou_at hs3.1 hs3.2)).1 rfl ?_
      refine Q_callVV (vs := [(2, (72 + 4 * (c 0 7)))]) (st := []) (pc' := 64) dX8_house_61 l_RX8_156 i24 (by decide) rfl rfl (Nat.le_of_ble_eq_true rfl) rfl (Nat.zero_le _) (Nat.zero_le _) rfl ?_
      refine CV.mono h (fun c9 h => ?_)
      refine R_aload_n (pc' := 65) dX8_house_64 rfl i0.1 rfl ?_
      refine R_dup (pc' := 66) dX8_house_65 (by simp) rfl ?_
      refine Q_getfi (J := 7) (pc' := 69) rfl dX8_house_66 l_RX8_149 i0 fd8_7.1 fd8_7.2.1 fd8_7.2.2.1 rfl ?_
      refine R_iconst (pc' := 70) dX8_house_69 rfl ?_
      refine R_iadd (pc' := 71) dX8_house_70 rfl ?_
      refine Q_putfi (J := 7) (pc' := 74) rfl dX8_house_71 l_RX8_149 i0 fd8_7.1 fd8_7.2.1 fd8_7.2.2.2.1 fd8_7.2.2.2.2 rfl (fun c11 hc11 => ?_)
      have h := h c11 hc11
      refine R_aload_n (pc' := 75) dX8_house_74 rfl i0.1 rfl ?_
      refine Q_getfi (J := 7) (pc' := 78) rfl dX8_house_75 l_RX8_149 i0 fd8_7.1 fd8_7.2.1 fd8_7.2.2.1 rfl ?_
      refine R_iconst (pc' := 79) dX8_house_78 rfl ?_
      refine R_isub (pc' := 80) dX8_house_79 rfl ?_
      exact Q_iret dX8_house_80 rfl h
    · have h := h.2 hc7
      refine R_bipush (pc' := 50) dX8_house_48 (by decide) rfl ?_
      refine R_iload_n (pc' := 51) dX8_house_50 rfl rfl ?_
      refine R_isub (pc' := 52) dX8_house_51 rfl ?_
      exact Q_iret dX8_house_52 rfl h
  · have h := h.2 hc1
    refine R_bipush (pc' := 11) dX8_house_9 (by decide) rfl ?_
    exact Q_iret dX8_house_11 rfl h
theorem e_X8_house {K : SK} {d : Nat} {c : ct} {Q : ct → Int → Prop}  (h : WI K (d + 1) mX8_house 0 [(2, 0), (9, 0), (9, 0)] [] c Q) : CI K (d + 1) mX8_house [(2, 0)] c Q := CM_ofS (by decide) (Nat.le_of_ble_eq_true rfl) _ rfl h
set_option maxRecDepth 100000 in
theorem s_X8_told_0 {K : SK} {d : Nat} {c : ct} {Q : ct → Int → Prop} (a1 : Int) (h : ir a1 ∧ (a1 = 0 → Q c (c 24 12)) ∧ (a1 = 1 → (isHou (c 24 13)) ∧ Q c (c (c 24 13) 5)) ∧ (a1 = 2 → (isHou (c 24 13)) ∧ Q c (c (c 24 13) 6)) ∧ (a1 = 3 → Q c (c 24 11)) ∧ (a1 = 4 → CI K d mX6_emptyCups [(2, 24)] c (fun c8 r9 => Q c8 r9)) ∧ (a1 = 5 → CI K d mX6_fondOfAll [(2, 24)] c (fun c11 r12 => Q c11 r12)) ∧ (a1 = 6 → CI K d mX6_clashes [(2, 24)] c (fun c14 r15 => Q c14 r15)) ∧ (a1 = 7 → CI K d mX6_round [(2, 24)] c (fun c17 r18 => Q c17 r18)) ∧ (a1 = 8 → CI K d mX6_toward [(2, 24)] c (fun c20 r21 => Q c20 r21)) ∧ ((a1 < 0 ∨ 8 < a1) → CI K d mX8_sitterOr [(2, 0), (0, (a1 - 10))] c (fun c22 r23 => Q c22 r23))) : WI K (d + 1) mX8_told 0 [(2, 0), (0, a1), (9, 0)] [] c Q := by
  refine R_aload_n (pc' := 1) dX8_told_0 rfl i0.1 rfl ?_
  refine Q_getfr (v := 11) (J := 0) (pc' := 4) rfl dX8_told_1 l_RX8_47 i0 fd8_0.1 fd8_0.2.1 fd8_0.2.2.1 fd8_0.2.2.2 f0_0 rfl ?_
  refine Q_getfNr (v := 24) (J := 0) (pc' := 7) rfl dX8_told_4 l_RX8_75 i11 fd1_0.1 fd1_0.2.1 fd1_0.2.2.1 fd1_0.2.2.2 f11_0 rfl ?_
  refine R_astore_n (L' := [_, _, _]) (pc' := 8) dX8_told_7 i24.1 (by decide) rfl rfl rfl ?_
  refine R_iload_n (pc' := 9) dX8_told_8 rfl rfl ?_
  have hs0 := h.1
  have h := h.2
  rcases (show a1 = 0 ∨ a1 = 1 ∨ a1 = 2 ∨ a1 = 3 ∨ a1 = 4 ∨ a1 = 5 ∨ a1 = 6 ∨ a1 = 7 ∨ a1 = 8 ∨ (a1 < 0 ∨ 8 < a1) by omega) with hk | hk | hk | hk | hk | hk | hk | hk | hk | hk
  · have h := h.1 hk
    refine R_tableAt (tgt := 60) 0 hk dX8_told_9 (ir_l (by decide) (by decide)) (by decide) rfl (by decide) ?_
    refine R_aload_n (pc' := 61) dX8_told_60 rfl i24.1 rfl ?_
    refine Q_getfNi (J := 12) (pc' := 64) rfl dX8_told_61 l_RX8_159 i24 fd6_12.1 fd6_12.2.1 fd6_12.2.2.1 rfl ?_
    exact Q_iret dX8_told_64 rfl h
  · have h := h.2.1 hk
    refine R_tableAt (tgt := 65) 1 hk dX8_told_9 (ir_l (by decide) (by decide)) (by decide) rfl (by decide) ?_
    refine R_aload_n (pc' := 66) dX8_told_65 rfl i24.1 rfl ?_
    have hs3 := h.1
    have h := h.2
    refine Q_getfNq (J := 13) (pc' := 69) rfl dX8_told_66 l_RX8_162 i24 fd6_13.1 fd6_13.2.1 fd6_13.2.2.1 fd6_13.2.2.2 rfl ?_
    refine Q_getfNi (J := 5) (pc' := 72) rfl dX8_told_69 l_RX8_166 (hou_s hs3) fd2_5.1 fd2_5.2.1 fd2_5.2.2.1 rfl ?_
    exact Q_iret dX8_told_72 rfl h
  · have h := h.2.2.1 hk
    refine R_tableAt (tgt := 73) 2 hk dX8_told_9 (ir_l (by decide) (by decide)) (by decide) rfl (by decide) ?_
    refine R_aload_n (pc' := 74) dX8_told_73 rfl i24.1 rfl ?_
    have hs5 := h.1
    have h := h.2
    refine Q_getfNq (J := 13) (pc' := 77) rfl dX8_told_74 l_RX8_162 i24 fd6_13.1 fd6_13.2.1 fd6_13.2.2.1 fd6_13.2.2.2 rfl ?_
    refine Q_getfNi (J := 6) (pc' := 80) rfl dX8_told_77 l_RX8_169 (hou_s hs5) fd2_6.1 fd2_6.2.1 fd2_6.2.2.1 rfl ?_
    exact Q_iret dX8_told_80 rfl h
  · have h := h.2.2.2.1 hk
    refine R_tableAt (tgt := 81) 3 hk dX8_told_9 (ir_l (by decide) (by decide)) (by decide) rfl (by decide) ?_
    refine R_aload_n (pc' := 82) dX8_told_81 rfl i24.1 rfl ?_
    refine Q_getfNi (J := 11) (pc' := 85) rfl dX8_told_82 l_RX8_172 i24 fd6_11.1 fd6_11.2.1 fd6_11.2.2.1 rfl ?_
    exact Q_iret dX8_told_85 rfl h
  · have h := h.2.2.2.2.1 hk
    refine R_tableAt (tgt := 86) 4 hk dX8_told_9 (ir_l (by decide) (by decide)) (by decide) rfl (by decide) ?_
    refine R_aload_n (pc' := 87) dX8_told_86 rfl i24.1 rfl ?_
    refine Q_callVI (vs := []) (st := []) (pc' := 90) dX8_told_87 l_RX8_134 i24 (by decide) rfl rfl (Nat.le_of_ble_eq_true rfl) rfl (Nat.zero_le _) (Nat.zero_le _) rfl ?_
    refine CI.mono h (fun c8 r9 h => ?_)
    exact Q_iret dX8_told_90 rfl h
  · have h := h.2.2.2.2.2.1 hk
    refine R_tableAt (tgt := 91) 5 hk dX8_told_9 (ir_l (by decide) (by decide)) (by decide) rfl (by decide) ?_
    refine R_aload_n (pc' := 92) dX8_told_91 rfl i24.1 rfl ?_
    refine Q_callVI (vs := []) (st := []) (pc' := 95) dX8_told_92 l_RX8_175 i24 (by decide) rfl rfl (Nat.le_of_ble_eq_true rfl) rfl (Nat.zero_le _) (Nat.zero_le _) rfl ?_
    refine CI.mono h (fun c11 r12 h => ?_)
    exact Q_iret dX8_told_95 rfl h
  · have h := h.2.2.2.2.2.2.1 hk
    refine R_tableAt (tgt := 96) 6 hk dX8_told_9 (ir_l (by decide) (by decide)) (by decide) rfl (by decide) ?_
    refine R_aload_n (pc' := 97) dX8_told_96 rfl i24.1 rfl ?_
    refine Q_callVI (vs := []) (st := []) (pc' := 100) dX8_told_97 l_RX8_178 i24 (by decide) rfl rfl (Nat.le_of_ble_eq_true rfl) rfl (Nat.zero_le _) (Nat.zero_le _) rfl ?_
    refine CI.mono h (fun c14 r15 h => ?_)
    exact Q_iret dX8_told_100 rfl h
  · have h := h.2.2.2.2.2.2.2.1 hk
    refine R_tableAt (tgt := 101) 7 hk dX8_told_9 (ir_l (by decide) (by decide)) (by decide) rfl (by decide) ?_
    refine R_aload_n (pc' := 102) dX8_told_101 rfl i24.1 rfl ?_
    refine Q_callVI (vs := []) (st := []) (pc' := 105) dX8_told_102 l_RX8_181 i24 (by decide) rfl rfl (Nat.le_of_ble_eq_true rfl) rfl (Nat.zero_le _) (Nat.zero_le _) rfl ?_
    refine CI.mono h (fun c17 r18 h => ?_)
    exact Q_iret dX8_told_105 rfl h
  · have h := h.2.2.2.2.2.2.2.2.1 hk
    refine R_tableAt (tgt := 106) 8 hk dX8_told_9 (ir_l (by decide) (by decide)) (by decide) rfl (by decide) ?_
    refine R_aload_n (pc' := 107) dX8_told_106 rfl i24.1 rfl ?_
    refine Q_callVI (vs := []) (st := []) (pc' := 110) dX8_told_107 l_RX8_184 i24 (by decide) rfl rfl (Nat.le_of_ble_eq_true rfl) rfl (Nat.zero_le _) (Nat.zero_le _) rfl ?_
    refine CI.mono h (fun c20 r21 h => ?_)
    exact Q_iret dX8_told_110 rfl h
  · have h := h.2.2.2.2.2.2.2.2.2 hk
    refine R_tableOut (tgt := 111) dX8_told_9 hs0 hk (by decide) ?_
    refine R_aload_n (pc' := 112) dX8_told_111 rfl i0.1 rfl ?_
    refine R_iload_n (pc' := 113) dX8_told_112 rfl rfl ?_
    refine R_bipush (pc' := 115) dX8_told_113 (by decide) rfl ?_
    refine R_isub (pc' := 116) dX8_told_115 rfl ?_
    refine Q_callVI (vs := [(0, (a1 - 10))]) (st := []) (pc' := 119) dX8_told_116 l_RX8_187 i0 (by decide) rfl rfl (Nat.le_of_ble_eq_true rfl) rfl (Nat.zero_le _) (Nat.zero_le _) rfl ?_
    refine CI.mono h (fun c22 r23 h => ?_)
    exact Q_iret dX8_told_119 rfl h
theorem e_X8_told {K : SK} {d : Nat} {c : ct} {Q : ct → Int → Prop} (a1 : Int) (h : WI K (d + 1) mX8_told 0 [(2, 0), (0, a1), (9, 0)] [] c Q) : CI K (d + 1) mX8_told [(2, 0), (0, a1)] c Q := CM_ofS (by decide) (Nat.le_of_ble_eq_true rfl) _ rfl h
set_option maxRecDepth 100000 in
theorem s_X8_sitterOr_0 {K : SK} {d : Nat} {c : ct} {Q : ct → Int → Prop} (a1 : Int) (h : CI K d mX8_isSeat [(0, a1)] c (fun c1 r2 => (r2 = 0 → Q c1 (-10001)) ∧ (¬ (r2 = 0) → ir r2 ∧ ((0 ≤ a1 ∧ a1 < 6)) ∧ (ir (c1 32 a1)) ∧ (0 ≤ (c1 32 a1) → Q c1 (c1 32 a1)) ∧ (¬ (0 ≤ (c1 32 a1)) → Q c1 (-5))))) : WI K (d + 1) mX8_sitterOr 0 [(2, 0), (0, a1), (9, 0)] [] c Q := by
  refine R_iload_n (pc' := 1) dX8_sitterOr_0 rfl rfl ?_
  refine Q_callSI (vs := [(0, a1)]) (st := []) (pc' := 4) dX8_sitterOr_1 l_RX8_123 rfl (Nat.le_of_ble_eq_true rfl) rfl (Nat.zero_le _) (Nat.zero_le _) rfl ?_
  refine CI.mono h (fun c1 r2 h => ?_)
  by_cases hc3 : r2 = 0
  · have h := h.1 hc3
    refine R_neS_if (tgt := 11) (pc' := 7) dX8_sitterOr_4 (by decide) hc3 rfl ?_
    refine R_sipush (pc' := 10) dX8_sitterOr_7 (by decide) rfl ?_
    exact Q_iret dX8_sitterOr_10 rfl h
  · have h := h.2 hc3
    refine R_neD_if (tgt := 11) (pc' := 7) dX8_sitterOr_4 (by decide) hc3 h.1 rfl ?_
    have h := h.2
    refine R_aload_n (pc' := 12) dX8_sitterOr_11 rfl i0.1 rfl ?_
    refine Q_getfr (v := 11) (J := 0) (pc' := 15) rfl dX8_sitterOr_12 l_RX8_47 i0 fd8_0.1 fd8_0.2.1 fd8_0.2.2.1 fd8_0.2.2.2 f0_0 rfl ?_
    refine Q_getfNr (v := 24) (J := 0) (pc' := 18) rfl dX8_sitterOr_15 l_RX8_75 i11 fd1_0.1 fd1_0.2.1 fd1_0.2.2.1 fd1_0.2.2.2 f11_0 rfl ?_
    refine Q_getfNr (v := 32) (J := 7) (pc' := 21) rfl dX8_sitterOr_18 l_RX8_190 i24 fd6_7.1 fd6_7.2.1 fd6_7.2.2.1 fd6_7.2.2.2 f24_7 rfl ?_
    refine R_iload_n (pc' := 22) dX8_sitterOr_21 rfl rfl ?_
    have hs4 := h.1
    have h := h.2
    refine Q_iaload (N := 6) (pc' := 23) rfl dX8_sitterOr_22 i32 (by decide) hs4 rfl ?_
    refine R_istore_n (L' := [_, _, _]) (pc' := 24) dX8_sitterOr_23 (by decide) rfl rfl rfl ?_
    refine R_iload_n (pc' := 25) dX8_sitterOr_24 rfl rfl ?_
    have hs6 := h.1
    have h := h.2
    refine R_if_ge (tgt := 33) (pc' := 28) dX8_sitterOr_25 (by decide) hs6  rfl (fun hc5 => ?_) (fun hc5 => ?_)
    · have h := h.1 hc5
      refine R_iload_n (pc' := 34) dX8_sitterOr_33 rfl rfl ?_
      exact Q_iret dX8_sitterOr_34 rfl h
    · have h := h.2 hc5
      refine R_bipush (pc' := 30) dX8_sitterOr_28 (by decide) rfl ?_
      refine R_goto (tgt := 34) dX8_sitterOr_30 (by decide) ?_
      exact Q_iret dX8_sitterOr_34 rfl h
theorem e_X8_sitterOr {K : SK} {d : Nat} {c : ct} {Q : ct → Int → Prop} (a1 : Int) (h : WI K (d + 1) mX8_sitterOr 0 [(2, 0), (0, a1), (9, 0)] [] c Q) : CI K (d + 1) mX8_sitterOr [(2, 0), (0, a1)] c Q := CM_ofS (by decide) (Nat.le_of_ble_eq_true rfl) _ rfl h
set_option maxRecDepth 100000 in
theorem s_X8_pass_0 {K : SK} {d : Nat} {c : ct} {Q : ct → Int → Prop} (a1 : Int) (h : (ir a1) ∧ (a1 < 0 → Q c (-2)) ∧ (¬ (a1 < 0) → (ir a1) ∧ (a1 ≤ 60 → (ir ((c 24 12) + a1)) ∧ (((c 24 12) + a1) ≤ 9999 → CV K d mX6_yearsGo [(2, 24), (0, a1)] c (fun c7 => Q c7 (c7 24 12))) ∧ (¬ (((c 24 12) + a1) ≤ 9999) → Q c (-3))) ∧ (¬ (a1 ≤ 60) → Q c (-2)))) : WI K (d + 1) mX8_pass 0 [(2, 0), (0, a1)] [] c Q := by
  refine R_iload_n (pc' := 1) dX8_pass_0 rfl rfl ?_
  have hs2 := h.1
  have h := h.2
  refine R_if_lt (tgt := 10) (pc' := 4) dX8_pass_1 (by decide) hs2  rfl (fun hc1 => ?_) (fun hc1 => ?_)
  · have h := h.1 hc1
    refine R_bipush (pc' := 12) dX8_pass_10 (by decide) rfl ?_
    exact Q_iret dX8_pass_12 rfl h
  · have h := h.2 hc1
    refine R_iload_n (pc' := 5) dX8_pass_4 rfl rfl ?_
    refine R_bipush (pc' := 7) dX8_pass_5 (by decide) rfl ?_
    have hs4 := h.1
    have h := h.2
    refine R_icmp_le (tgt := 13) (pc' := 10) dX8_pass_7 (by decide) hs4 (ir_l (by decide) (by decide)) rfl (fun hc3 => ?_) (fun hc3 => ?_)
    · have h := h.1 hc3
      refine R_aload_n (pc' := 14) dX8_pass_13 rfl i0.1 rfl ?_
      refine Q_getfr (v := 11) (J := 0) (pc' := 17) rfl dX8_pass_14 l_RX8_47 i0 fd8_0.1 fd8_0.2.1 fd8_0.2.2.1 fd8_0.2.2.2 f0_0 rfl ?_
      refine Q_getfNr (v := 24) (J := 0) (pc' := 20) rfl dX8_pass_17 l_RX8_75 i11 fd1_0.1 fd1_0.2.1 fd1_0.2.2.1 fd1_0.2.2.2 f11_0 rfl ?_
      refine Q_getfNi (J := 12) (pc' := 23) rfl dX8_pass_20 l_RX8_159 i24 fd6_12.1 fd6_12.2.1 fd6_12.2.2.1 rfl ?_
      refine R_iload_n (pc' := 24) dX8_pass_23 rfl rfl ?_
      refine R_iadd (pc' := 25) dX8_pass_24 rfl ?_
      refine R_sipush (pc' := 28) dX8_pass_25 (by decide) rfl ?_
      have hs6 := h.1
      have h := h.2
      refine R_icmp_le (tgt := 34) (pc' := 31) dX8_pass_28 (by decide) hs6 (ir_l (by decide) (by decide)) rfl (fun hc5 => ?_) (fun hc5 => ?_)
      · have h := h.1 hc5
        refine R_aload_n (pc' := 35) dX8_pass_34 rfl i0.1 rfl ?_
        refine Q_getfr (v := 11) (J := 0) (pc' := 38) rfl dX8_pass_35 l_RX8_47 i0 fd8_0.1 fd8_0.2.1 fd8_0.2.2.1 fd8_0.2.2.2 f0_0 rfl ?_
        refine Q_getfNr (v := 24) (J := 0) (pc' := 41) rfl dX8_pass_38 l_RX8_75 i11 fd1_0.1 fd1_0.2.1 fd1_0.2.2.1 fd1_0.2.2.2 f11_0 rfl ?_
        refine R_iload_n (pc' := 42) dX8_pass_41 rfl rfl ?_
        refine Q_callVV (vs := [(0, a1)]) (st := []) (pc' := 45) dX8_pass_42 l_RX8_193 i24 (by decide) rfl rfl (Nat.le_of_ble_eq_true rfl) rfl (Nat.zero_le _) (Nat.zero_le _) rfl ?_
        refine CV.mono h (fun c7 h => ?_)
        refine R_aload_n (pc' := 46) dX8_pass_45 rfl i0.1 rfl ?_
        refine Q_getfr (v := 11) (J := 0) (pc' := 49) rfl dX8_pass_46 l_RX8_47 i0 fd8_0.1 fd8_0.2.1 fd8_0.2.2.1 fd8_0.2.2.2 f0_0 rfl ?_
        refine Q_getfNr (v := 24) (J := 0) (pc' := 52) rfl dX8_pass_49 l_RX8_75 i11 fd1_0.1 fd1_0.2.1 fd1_0.2.2.1 fd1_0.2.2.2 f11_0 rfl ?_
        refine Q_getfNi (J := 12) (pc' := 55) rfl dX8_pass_52 l_RX8_159 i24 fd6_12.1 fd6_12.2.1 fd6_12.2.2.1 rfl ?_
        exact Q_iret dX8_pass_55 rfl h
      · have h := h.2 hc5
        refine R_bipush (pc' := 33) dX8_pass_31 (by decide) rfl ?_
        exact Q_iret dX8_pass_33 rfl h
    · have h := h.2 hc3
      refine R_bipush (pc' := 12) dX8_pass_10 (by decide) rfl ?_
      exact Q_iret dX8_pass_12 rfl h
theorem e_X8_pass {K : SK} {d : Nat} {c : ct} {Q : ct → Int → Prop} (a1 : Int) (h : WI K (d + 1) mX8_pass 0 [(2, 0), (0, a1)] [] c Q) : CI K (d + 1) mX8_pass [(2, 0), (0, a1)] c Q := CM_ofS (by decide) (Nat.le_of_ble_eq_true rfl) _ rfl h
set_option maxRecDepth 100000 in
theorem s_X8_on_0 {K : SK} {d : Nat} {c : ct} {Q : ct → Int → Prop} (a1 : Int) (a2 : Int) (h : (a2 = 0 → WI K (d + 1) mX8_on 26 [(2, 0), (0, a1), (0, a2), (0, (a2 - 10))] [] c Q) ∧ (¬ (a2 = 0) → ir a2 ∧ (a2 = 1 → WI K (d + 1) mX8_on 26 [(2, 0), (0, a1), (0, a2), (0, (a2 - 10))] [] c Q) ∧ (¬ (a2 = 1) → ir a2 ∧ CI K d mX8_isGuest [(2, 0), (0, (a2 - 10))] c (fun c3 r4 => (r4 = 0 → Q c3 (-10001)) ∧ (¬ (r4 = 0) → ir r4 ∧ WI K (d + 1) mX8_on 26 [(2, 0), (0, a1), (0, a2), (0, (a2 - 10))] [] c3 Q))))) : WI K (d + 1) mX8_on 0 [(2, 0), (0, a1), (0, a2), (9, 0)] [] c Q := by
  refine R_iload_n (pc' := 1) dX8_on_0 rfl rfl ?_
  refine R_bipush (pc' := 3) dX8_on_1 (by decide) rfl ?_
  refine R_isub (pc' := 4) dX8_on_3 rfl ?_
  refine R_istore_n (L' := [_, _, _, _]) (pc' := 5) dX8_on_4 (by decide) rfl rfl rfl ?_
  refine R_iload_n (pc' := 6) dX8_on_5 rfl rfl ?_
  by_cases hc1 : a2 = 0
  · have h := h.1 hc1
    refine R_eqS_if (tgt := 26) (pc' := 9) dX8_on_6 (by decide) hc1 rfl ?_
    exact WP_wk (wk_e (wk_e (wk_e (wk_e wk_n)))) h
  · have h := h.2 hc1
    refine R_eqD_if (tgt := 26) (pc' := 9) dX8_on_6 (by decide) hc1 h.1 rfl ?_
    have h := h.2
    refine R_iload_n (pc' := 10) dX8_on_9 rfl rfl ?_
    refine R_iconst (pc' := 11) dX8_on_10 rfl ?_
    by_cases hc2 : a2 = 1
    · have h := h.1 hc2
      refine R_eqS_ic (tgt := 26) (pc' := 14) dX8_on_11 (by decide) hc2 rfl ?_
      exact WP_wk (wk_e (wk_e (wk_e (wk_e wk_n)))) h
    · have h := h.2 hc2
      refine R_eqD_ic (tgt := 26) (pc' := 14) dX8_on_11 (by decide) hc2 ⟨h.1, ir_l (by decide) (by decide)⟩ rfl ?_
      have h := h.2
      refine R_aload_n (pc' := 15) dX8_on_14 rfl i0.1 rfl ?_
      refine R_iload_n (pc' := 16) dX8_on_15 rfl rfl ?_
      refine Q_callVI (vs := [(0, (a2 - 10))]) (st := []) (pc' := 19) dX8_on_16 l_RX8_86 i0 (by decide) rfl rfl (Nat.le_of_ble_eq_true rfl) rfl (Nat.zero_le _) (Nat.zero_le _) rfl ?_
      refine CI.mono h (fun c3 r4 h => ?_)
      by_cases hc5 : r4 = 0
      · have h := h.1 hc5
        refine R_neS_if (tgt := 26) (pc' := 22) dX8_on_19 (by decide) hc5 rfl ?_
        refine R_sipush (pc' := 25) dX8_on_22 (by decide) rfl ?_
        exact Q_iret dX8_on_25 rfl h
      · have h := h.2 hc5
        refine R_neD_if (tgt := 26) (pc' := 22) dX8_on_19 (by decide) hc5 h.1 rfl ?_
        have h := h.2
        exact WP_wk (wk_e (wk_e (wk_e (wk_e wk_n)))) h
set_option maxRecDepth 100000 in
theorem s_X8_on_26 {K : SK} {d : Nat} {c : ct} {Q : ct → Int → Prop} (a1 : Int) (a2 : Int) (a3 : Int) (h : (ir a1) ∧ (a1 < 0 → Q c (-10002)) ∧ (¬ (a1 < 0) → (ir a1) ∧ (a1 ≤ 60 → CV K d mX6_copyFrom [(2, 59), (2, 24)] c (fun c5 => CV K d mX6_yearsGo [(2, 59), (0, a1)] c5 (fun c7 => (a2 = 0 → CI K d mX6_emptyCups [(2, 59)] c7 (fun c10 r11 => Q c10 r11)) ∧ (¬ (a2 = 0) → ir a2 ∧ (a2 = 1 → CI K d mX8_usedMore [(2, 0)] c7 (fun c13 r14 => Q c13 r14)) ∧ (¬ (a2 = 1) → ir a2 ∧ CI K d mX6_fondOf [(2, 59), (0, a3)] c7 (fun c15 r16 => Q c15 r16)))))) ∧ (¬ (a1 ≤ 60) → Q c (-10002)))) : WI K (d + 1) mX8_on 26 [(2, 0), (0, a1), (0, a2), (0, a3)] [] c Q := by
  refine R_iload_n (pc' := 27) dX8_on_26 rfl rfl ?_
  have hs2 := h.1
  have h := h.2
  refine R_if_lt (tgt := 36) (pc' := 30) dX8_on_27 (by decide) hs2  rfl (fun hc1 => ?_) (fun hc1 => ?_)
  · have h := h.1 hc1
    refine R_sipush (pc' := 39) dX8_on_36 (by decide) rfl ?_
    exact Q_iret dX8_on_39 rfl h
  · have h := h.2 hc1
    refine R_iload_n (pc' := 31) dX8_on_30 rfl rfl ?_
    refine R_bipush (pc' := 33) dX8_on_31 (by decide) rfl ?_
    have hs4 := h.1
    have h := h.2
    refine R_icmp_le (tgt := 40) (pc' := 36) dX8_on_33 (by decide) hs4 (ir_l (by decide) (by decide)) rfl (fun hc3 => ?_) (fun hc3 => ?_)
    · have h := h.1 hc3
      refine R_aload_n (pc' := 41) dX8_on_40 rfl i0.1 rfl ?_
      refine Q_getfr (v := 59) (J := 3) (pc' := 44) rfl dX8_on_41 l_RX8_57 i0 fd8_3.1 fd8_3.2.1 fd8_3.2.2.1 fd8_3.2.2.2 f0_3 rfl ?_
      refine R_aload_n (pc' := 45) dX8_on_44 rfl i0.1 rfl ?_
      refine Q_getfr (v := 11) (J := 0) (pc' := 48) rfl dX8_on_45 l_RX8_47 i0 fd8_0.1 fd8_0.2.1 fd8_0.2.2.1 fd8_0.2.2.2 f0_0 rfl ?_
      refine Q_getfNr (v := 24) (J := 0) (pc' := 51) rfl dX8_on_48 l_RX8_75 i11 fd1_0.1 fd1_0.2.1 fd1_0.2.2.1 fd1_0.2.2.2 f11_0 rfl ?_
      refine Q_callVV (vs := [(2, 24)]) (st := []) (pc' := 54) dX8_on_51 l_RX8_196 i59 (by decide) rfl rfl (Nat.le_of_ble_eq_true rfl) rfl (Nat.zero_le _) (Nat.zero_le _) rfl ?_
      refine CV.mono h (fun c5 h => ?_)
      refine R_aload_n (pc' := 55) dX8_on_54 rfl i0.1 rfl ?_
      refine Q_getfr (v := 59) (J := 3) (pc' := 58) rfl dX8_on_55 l_RX8_57 i0 fd8_3.1 fd8_3.2.1 fd8_3.2.2.1 fd8_3.2.2.2 f0_3 rfl ?_
      refine R_iload_n (pc' := 59) dX8_on_58 rfl rfl ?_
      refine Q_callVV (vs := [(0, a1)]) (st := []) (pc' := 62) dX8_on_59 l_RX8_193 i59 (by decide) rfl rfl (Nat.le_of_ble_eq_true rfl) rfl (Nat.zero_le _) (Nat.zero_le _) rfl ?_
      refine CV.mono h (fun c7 h => ?_)
      refine R_iload_n (pc' := 63) dX8_on_62 rfl rfl ?_
      by_cases hc9 : a2 = 0
      · have h := h.1 hc9
        refine R_neS_if (tgt := 74) (pc' := 66) dX8_on_63 (by decide) hc9 rfl ?_
        refine R_aload_n (pc' := 67) dX8_on_66 rfl i0.1 rfl ?_
        refine Q_getfr (v := 59) (J := 3) (pc' := 70) rfl dX8_on_67 l_RX8_57 i0 fd8_3.1 fd8_3.2.1 fd8_3.2.2.1 fd8_3.2.2.2 f0_3 rfl ?_
        refine Q_callVI (vs := []) (st := []) (pc' := 73) dX8_on_70 l_RX8_134 i59 (by decide) rfl rfl (Nat.le_of_ble_eq_true rfl) rfl (Nat.zero_le _) (Nat.zero_le _) rfl ?_
        refine CI.mono h (fun c10 r11 h => ?_)
        exact Q_iret dX8_on_73 rfl h
      · have h := h.2 hc9
        refine R_neD_if (tgt := 74) (pc' := 66) dX8_on_63 (by decide) hc9 h.1 rfl ?_
        have h := h.2
        refine R_iload_n (pc' := 75) dX8_on_74 rfl rfl ?_
        refine R_iconst (pc' := 76) dX8_on_75 rfl ?_
        by_cases hc12 : a2 = 1
        · have h := h.1 hc12
          refine R_neS_ic (tgt := 86) (pc' := 79) dX8_on_76 (by decide) hc12 rfl ?_
          refine R_aload_n (pc' := 80) dX8_on_79 rfl i0.1 rfl ?_
          refine Q_callVI (vs := []) (st := []) (pc' := 83) dX8_on_80 l_RX8_199 i0 (by decide) rfl rfl (Nat.le_of_ble_eq_true rfl) rfl (Nat.zero_le _) (Nat.zero_le _) rfl ?_
          refine CI.mono h (fun c13 r14 h => ?_)
          refine R_goto (tgt := 94) dX8_on_83 (by decide) ?_
          exact Q_iret dX8_on_94 rfl h
        · have h := h.2 hc12
          refine R_neD_ic (tgt := 86) (pc' := 79) dX8_on_76 (by decide) hc12 ⟨h.1, ir_l (by decide) (by decide)⟩ rfl ?_
          have h := h.2
          refine R_aload_n (pc' := 87) dX8_on_86 rfl i0.1 rfl ?_
          refine Q_getfr (v := 59) (J := 3) (pc' := 90) rfl dX8_on_87 l_RX8_57 i0 fd8_3.1 fd8_3.2.1 fd8_3.2.2.1 fd8_3.2.2.2 f0_3 rfl ?_
          refine R_iload_n (pc' := 91) dX8_on_90 rfl rfl ?_
          refine Q_callVI (vs := [(0, a3)]) (st := []) (pc' := 94) dX8_on_91 l_RX8_117 i59 (by decide) rfl rfl (Nat.le_of_ble_eq_true rfl) rfl (Nat.zero_le _) (Nat.zero_le _) rfl ?_
          refine CI.mono h (fun c15 r16 h => ?_)
          exact Q_iret dX8_on_94 rfl h
    · have h := h.2 hc3
      refine R_sipush (pc' := 39) dX8_on_36 (by decide) rfl ?_
      exact Q_iret dX8_on_39 rfl h
theorem e_X8_on {K : SK} {d : Nat} {c : ct} {Q : ct → Int → Prop} (a1 : Int) (a2 : Int) (h : WI K (d + 1) mX8_on 0 [(2, 0), (0, a1), (0, a2), (9, 0)] [] c Q) : CI K (d + 1) mX8_on [(2, 0), (0, a1), (0, a2)] c Q := CM_ofS (by decide) (Nat.le_of_ble_eq_true rfl) _ rfl h
set_option maxRecDepth 100000 in
theorem s_X8_soon_0 {K : SK} {d : Nat} {c : ct} {Q : ct → Int → Prop} (a1 : Int) (h : (ir a1) ∧ (a1 < 0 → Q c (-2)) ∧ (¬ (a1 < 0) → (ir a1) ∧ (a1 ≤ 6 → CV K d mX6_copyFrom [(2, 59), (2, 24)] c (fun c5 => WI K (d + 1) mX8_soon 29 [(2, 0), (0, a1), (0, 0)] [] c5 Q)) ∧ (¬ (a1 ≤ 6) → Q c (-2)))) : WI K (d + 1) mX8_soon 0 [(2, 0), (0, a1), (9, 0)] [] c Q := by
  refine R_iload_n (pc' := 1) dX8_soon_0 rfl rfl ?_
  have hs2 := h.1
  have h := h.2
  refine R_if_lt (tgt := 10) (pc' := 4) dX8_soon_1 (by decide) hs2  rfl (fun hc1 => ?_) (fun hc1 => ?_)
  · have h := h.1 hc1
    refine R_bipush (pc' := 12) dX8_soon_10 (by decide) rfl ?_
    exact Q_iret dX8_soon_12 rfl h
  · have h := h.2 hc1
    refine R_iload_n (pc' := 5) dX8_soon_4 rfl rfl ?_
    refine R_bipush (pc' := 7) dX8_soon_5 (by decide) rfl ?_
    have hs4 := h.1
    have h := h.2
    refine R_icmp_le (tgt := 13) (pc' := 10) dX8_soon_7 (by decide) hs4 (ir_l (by decide) (by decide)) rfl (fun hc3 => ?_) (fun hc3 => ?_)
    · have h := h.1 hc3
      refine R_aload_n (pc' := 14) dX8_soon_13 rfl i0.1 rfl ?_
      refine Q_getfr (v := 59) (J := 3) (pc' := 17) rfl dX8_soon_14 l_RX8_57 i0 fd8_3.1 fd8_3.2.1 fd8_3.2.2.1 fd8_3.2.2.2 f0_3 rfl ?_
      refine R_aload_n (pc' := 18) dX8_soon_17 rfl i0.1 rfl ?_
      refine Q_getfr (v := 11) (J := 0) (pc' := 21) rfl dX8_soon_18 l_RX8_47 i0 fd8_0.1 fd8_0.2.1 fd8_0.2.2.1 fd8_0.2.2.2 f0_0 rfl ?_
      refine Q_getfNr (v := 24) (J := 0) (pc' := 24) rfl dX8_soon_21 l_RX8_75 i11 fd1_0.1 fd1_0.2.1 fd1_0.2.2.1 fd1_0.2.2.2 f11_0 rfl ?_
      refine Q_callVV (vs := [(2, 24)]) (st := []) (pc' := 27) dX8_soon_24 l_RX8_196 i59 (by decide) rfl rfl (Nat.le_of_ble_eq_true rfl) rfl (Nat.zero_le _) (Nat.zero_le _) rfl ?_
      refine CV.mono h (fun c5 h => ?_)
      refine R_iconst (pc' := 28) dX8_soon_27 rfl ?_
      refine R_istore_n (L' := [_, _, _]) (pc' := 29) dX8_soon_28 (by decide) rfl rfl rfl ?_
      exact WP_wk (wk_e (wk_e (wk_e wk_n))) h
    · have h := h.2 hc3
      refine R_bipush (pc' := 12) dX8_soon_10 (by decide) rfl ?_
      exact Q_iret dX8_soon_12 rfl h
set_option maxRecDepth 100000 in
theorem s_X8_soon_29 {K : SK} {d : Nat} {c : ct} {Q : ct → Int → Prop} (a1 : Int) (a2 : Int) (h : (ir a2) ∧ (60 < a2 → Q c (-5)) ∧ (¬ (60 < a2) → CI K d mX6_emptyCups [(2, 59)] c (fun c3 r4 => CI K d mJ6_bitCount_0f7a4 [(0, r4)] c3 (fun c5 r6 => (ir r6 ∧ ir a1) ∧ (r6 < a1 → CV K d mX6_yearsGo [(2, 59), (0, 1)] c5 (fun c9 => WI K (d + 1) mX8_soon 29 [(2, 0), (0, a1), (0, (a2 + 1))] [] c9 Q)) ∧ (¬ (r6 < a1) → Q c5 a2))))) : WI K (d + 1) mX8_soon 29 [(2, 0), (0, a1), (0, a2)] [] c Q := by
  refine R_iload_n (pc' := 30) dX8_soon_29 rfl rfl ?_
  refine R_bipush (pc' := 32) dX8_soon_30 (by decide) rfl ?_
  have hs2 := h.1
  have h := h.2
  refine R_icmp_gt (tgt := 65) (pc' := 35) dX8_soon_32 (by decide) hs2 (ir_l (by decide) (by decide)) rfl (fun hc1 => ?_) (fun hc1 => ?_)
  · have h := h.1 hc1
    refine R_bipush (pc' := 67) dX8_soon_65 (by decide) rfl ?_
    exact Q_iret dX8_soon_67 rfl h
  · have h := h.2 hc1
    refine R_aload_n (pc' := 36) dX8_soon_35 rfl i0.1 rfl ?_
    refine Q_getfr (v := 59) (J := 3) (pc' := 39) rfl dX8_soon_36 l_RX8_57 i0 fd8_3.1 fd8_3.2.1 fd8_3.2.2.1 fd8_3.2.2.2 f0_3 rfl ?_
    refine Q_callVI (vs := []) (st := []) (pc' := 42) dX8_soon_39 l_RX8_134 i59 (by decide) rfl rfl (Nat.le_of_ble_eq_true rfl) rfl (Nat.zero_le _) (Nat.zero_le _) rfl ?_
    refine CI.mono h (fun c3 r4 h => ?_)
    refine Q_callSI (vs := [(0, r4)]) (st := []) (pc' := 45) dX8_soon_42 l_RX8_138 rfl (Nat.le_of_ble_eq_true rfl) rfl (Nat.zero_le _) (Nat.zero_le _) rfl ?_
    refine CI.mono h (fun c5 r6 h => ?_)
    refine R_iload_n (pc' := 46) dX8_soon_45 rfl rfl ?_
    have hs8 := h.1
    have h := h.2
    refine R_icmp_lt (tgt := 51) (pc' := 49) dX8_soon_46 (by decide) hs8.1 hs8.2 rfl (fun hc7 => ?_) (fun hc7 => ?_)
    · have h := h.1 hc7
      refine R_aload_n (pc' := 52) dX8_soon_51 rfl i0.1 rfl ?_
      refine Q_getfr (v := 59) (J := 3) (pc' := 55) rfl dX8_soon_52 l_RX8_57 i0 fd8_3.1 fd8_3.2.1 fd8_3.2.2.1 fd8_3.2.2.2 f0_3 rfl ?_
      refine R_iconst (pc' := 56) dX8_soon_55 rfl ?_
      refine Q_callVV (vs := [(0, 1)]) (st := []) (pc' := 59) dX8_soon_56 l_RX8_193 i59 (by decide) rfl rfl (Nat.le_of_ble_eq_true rfl) rfl (Nat.zero_le _) (Nat.zero_le _) rfl ?_
      refine CV.mono h (fun c9 h => ?_)
      refine R_iinc (L' := [_, _, _]) (pc' := 62) dX8_soon_59 rfl (by decide) rfl rfl rfl ?_
      refine R_goto (tgt := 29) dX8_soon_62 (by decide) ?_
      exact WP_wk (wk_e (wk_e (wk_e wk_n))) h
    · have h := h.2 hc7
      refine R_iload_n (pc' := 50) dX8_soon_49 rfl rfl ?_
      exact Q_iret dX8_soon_50 rfl h
theorem e_X8_soon {K : SK} {d : Nat} {c : ct} {Q : ct → Int → Prop} (a1 : Int) (h : WI K (d + 1) mX8_soon 0 [(2, 0), (0, a1), (9, 0)] [] c Q) : CI K (d + 1) mX8_soon [(2, 0), (0, a1)] c Q := CM_ofS (by decide) (Nat.le_of_ble_eq_true rfl) _ rfl h
set_option maxRecDepth 100000 in
theorem s_X8_usedMore_0 {K : SK} {d : Nat} {c : ct} {Q : ct → Int → Prop}  (h : CI K d mX6_usedOfAll [(2, 59)] c (fun c1 r2 => CI K d mX6_usedOfAll [(2, 24)] c1 (fun c3 r4 => Q c3 (r2 - r4)))) : WI K (d + 1) mX8_usedMore 0 [(2, 0)] [] c Q := by
  refine R_aload_n (pc' := 1) dX8_usedMore_0 rfl i0.1 rfl ?_
  refine Q_getfr (v := 59) (J := 3) (pc' := 4) rfl dX8_usedMore_1 l_RX8_57 i0 fd8_3.1 fd8_3.2.1 fd8_3.2.2.1 fd8_3.2.2.2 f0_3 rfl ?_
  refine Q_callVI (vs := []) (st := []) (pc' := 7) dX8_usedMore_4 l_RX8_202 i59 (by decide) rfl rfl (Nat.le_of_ble_eq_true rfl) rfl (Nat.zero_le _) (Nat.zero_le _) rfl ?_
  refine CI.mono h (fun c1 r2 h => ?_)
  refine R_aload_n (pc' := 8) dX8_usedMore_7 rfl i0.1 rfl ?_
  refine Q_getfr (v := 11) (J := 0) (pc' := 11) rfl dX8_usedMore_8 l_RX8_47 i0 fd8_0.1 fd8_0.2.1 fd8_0.2.2.1 fd8_0.2.2.2 f0_0 rfl ?_
  refine Q_getfNr (v := 24) (J := 0) (pc' := 14) rfl dX8_usedMore_11 l_RX8_75 i11 fd1_0.1 fd1_0.2.1 fd1_0.2.2.1 fd1_0.2.2.2 f11_0 rfl ?_
  refine Q_callVI (vs := []) (st := [(0, r2)]) (pc' := 17) dX8_usedMore_14 l_RX8_202 i24 (by decide) rfl rfl (Nat.le_of_ble_eq_true rfl) rfl (Nat.zero_le _) (Nat.zero_le _) rfl ?_
  refine CI.mono h (fun c3 r4 h => ?_)
  refine R_isub (pc' := 18) dX8_usedMore_17 rfl ?_
  exact Q_iret dX8_usedMore_18 rfl h
theorem e_X8_usedMore {K : SK} {d : Nat} {c : ct} {Q : ct → Int → Prop}  (h : WI K (d + 1) mX8_usedMore 0 [(2, 0)] [] c Q) : CI K (d + 1) mX8_usedMore [(2, 0)] c Q := CM_ofS (by decide) (Nat.le_of_ble_eq_true rfl) _ rfl h
set_option maxRecDepth 100000 in
theorem s_X8_best_0 {K : SK} {d : Nat} {c : ct} {Q : ct → Int → Prop} (a1 : Int) (h : (a1 = 0 → WI K (d + 1) mX8_best 21 [(2, 0), (0, a1), (0, (a1 - 10))] [] c Q) ∧ (¬ (a1 = 0) → ir a1 ∧ CI K d mX8_isGuest [(2, 0), (0, (a1 - 10))] c (fun c2 r3 => (r3 = 0 → Q c2 (-10001)) ∧ (¬ (r3 = 0) → ir r3 ∧ WI K (d + 1) mX8_best 21 [(2, 0), (0, a1), (0, (a1 - 10))] [] c2 Q)))) : WI K (d + 1) mX8_best 0 [(2, 0), (0, a1), (9, 0)] [] c Q := by
  refine R_iload_n (pc' := 1) dX8_best_0 rfl rfl ?_
  refine R_bipush (pc' := 3) dX8_best_1 (by decide) rfl ?_
  refine R_isub (pc' := 4) dX8_best_3 rfl ?_
  refine R_istore_n (L' := [_, _, _]) (pc' := 5) dX8_best_4 (by decide) rfl rfl rfl ?_
  refine R_iload_n (pc' := 6) dX8_best_5 rfl rfl ?_
  by_cases hc1 : a1 = 0
  · have h := h.1 hc1
    refine R_eqS_if (tgt := 21) (pc' := 9) dX8_best_6 (by decide) hc1 rfl ?_
    exact WP_wk (wk_e (wk_e (wk_e wk_n))) h
  · have h := h.2 hc1
    refine R_eqD_if (tgt := 21) (pc' := 9) dX8_best_6 (by decide) hc1 h.1 rfl ?_
    have h := h.2
    refine R_aload_n (pc' := 10) dX8_best_9 rfl i0.1 rfl ?_
    refine R_iload_n (pc' := 11) dX8_best_10 rfl rfl ?_
    refine Q_callVI (vs := [(0, (a1 - 10))]) (st := []) (pc' := 14) dX8_best_11 l_RX8_86 i0 (by decide) rfl rfl (Nat.le_of_ble_eq_true rfl) rfl (Nat.zero_le _) (Nat.zero_le _) rfl ?_
    refine CI.mono h (fun c2 r3 h => ?_)
    by_cases hc4 : r3 = 0
    · have h := h.1 hc4
      refine R_neS_if (tgt := 21) (pc' := 17) dX8_best_14 (by decide) hc4 rfl ?_
      refine R_sipush (pc' := 20) dX8_best_17 (by decide) rfl ?_
      exact Q_iret dX8_best_20 rfl h
    · have h := h.2 hc4
      refine R_neD_if (tgt := 21) (pc' := 17) dX8_best_14 (by decide) hc4 h.1 rfl ?_
      have h := h.2
      exact WP_wk (wk_e (wk_e (wk_e wk_n))) h
set_option maxRecDepth 100000 in
theorem s_X8_best_21 {K : SK} {d : Nat} {c : ct} {Q : ct → Int → Prop} (a1 : Int) (a2 : Int) (h : CV K d mX3_find [(2, 70), (2, 24), (0, 0)] c (fun c1 => (a1 = 0 → Q c1 (c1 70 2)) ∧ (¬ (a1 = 0) → ir a1 ∧ ((0 ≤ a2 ∧ a2 < 6)) ∧ Q c1 (c1 71 a2)))) : WI K (d + 1) mX8_best 21 [(2, 0), (0, a1), (0, a2)] [] c Q := by
  refine R_aload_n (pc' := 22) dX8_best_21 rfl i0.1 rfl ?_
  refine Q_getfr (v := 70) (J := 9) (pc' := 25) rfl dX8_best_22 l_RX8_66 i0 fd8_9.1 fd8_9.2.1 fd8_9.2.2.1 fd8_9.2.2.2 f0_9 rfl ?_
  refine R_aload_n (pc' := 26) dX8_best_25 rfl i0.1 rfl ?_
  refine Q_getfr (v := 11) (J := 0) (pc' := 29) rfl dX8_best_26 l_RX8_47 i0 fd8_0.1 fd8_0.2.1 fd8_0.2.2.1 fd8_0.2.2.2 f0_0 rfl ?_
  refine Q_getfNr (v := 24) (J := 0) (pc' := 32) rfl dX8_best_29 l_RX8_75 i11 fd1_0.1 fd1_0.2.1 fd1_0.2.2.1 fd1_0.2.2.2 f11_0 rfl ?_
  refine R_iconst (pc' := 33) dX8_best_32 rfl ?_
  refine Q_callVV (vs := [(2, 24), (0, 0)]) (st := []) (pc' := 36) dX8_best_33 l_RX8_205 i70 (by decide) rfl rfl (Nat.le_of_ble_eq_true rfl) rfl (Nat.zero_le _) (Nat.zero_le _) rfl ?_
  refine CV.mono h (fun c1 h => ?_)
  refine R_iload_n (pc' := 37) dX8_best_36 rfl rfl ?_
  by_cases hc3 : a1 = 0
  · have h := h.1 hc3
    refine R_neS_if (tgt := 50) (pc' := 40) dX8_best_37 (by decide) hc3 rfl ?_
    refine R_aload_n (pc' := 41) dX8_best_40 rfl i0.1 rfl ?_
    refine Q_getfr (v := 70) (J := 9) (pc' := 44) rfl dX8_best_41 l_RX8_66 i0 fd8_9.1 fd8_9.2.1 fd8_9.2.2.1 fd8_9.2.2.2 f0_9 rfl ?_
    refine Q_getfNi (J := 2) (pc' := 47) rfl dX8_best_44 l_RX8_209 i70 fd3_2.1 fd3_2.2.1 fd3_2.2.2.1 rfl ?_
    refine R_goto (tgt := 59) dX8_best_47 (by decide) ?_
    exact Q_iret dX8_best_59 rfl h
  · have h := h.2 hc3
    refine R_neD_if (tgt := 50) (pc' := 40) dX8_best_37 (by decide) hc3 h.1 rfl ?_
    have h := h.2
    refine R_aload_n (pc' := 51) dX8_best_50 rfl i0.1 rfl ?_
    refine Q_getfr (v := 70) (J := 9) (pc' := 54) rfl dX8_best_51 l_RX8_66 i0 fd8_9.1 fd8_9.2.1 fd8_9.2.2.1 fd8_9.2.2.2 f0_9 rfl ?_
    refine Q_getfNr (v := 71) (J := 1) (pc' := 57) rfl dX8_best_54 l_RX8_212 i70 fd3_1.1 fd3_1.2.1 fd3_1.2.2.1 fd3_1.2.2.2 f70_1 rfl ?_
    refine R_iload_n (pc' := 58) dX8_best_57 rfl rfl ?_
    have hs4 := h.1
    have h := h.2
    refine Q_iaload (N := 6) (pc' := 59) rfl dX8_best_58 i71 (by decide) hs4 rfl ?_
    exact Q_iret dX8_best_59 rfl h
theorem e_X8_best {K : SK} {d : Nat} {c : ct} {Q : ct → Int → Prop} (a1 : Int) (h : WI K (d + 1) mX8_best 0 [(2, 0), (0, a1), (9, 0)] [] c Q) : CI K (d + 1) mX8_best [(2, 0), (0, a1)] c Q := CM_ofS (by decide) (Nat.le_of_ble_eq_true rfl) _ rfl h
set_option maxRecDepth 100000 in
theorem s_X8_peace_0 {K : SK} {d : Nat} {c : ct} {Q : ct → Int → Prop} (a1 : Int) (h : (a1 = 0 → WI K (d + 1) mX8_peace 26 [(2, 0), (0, a1), (0, (a1 - 10))] [] c Q) ∧ (¬ (a1 = 0) → ir a1 ∧ (a1 = 1 → WI K (d + 1) mX8_peace 26 [(2, 0), (0, a1), (0, (a1 - 10))] [] c Q) ∧ (¬ (a1 = 1) → ir a1 ∧ CI K d mX8_isGuest [(2, 0), (0, (a1 - 10))] c (fun c3 r4 => (r4 = 0 → Q c3 (-10001)) ∧ (¬ (r4 = 0) → ir r4 ∧ WI K (d + 1) mX8_peace 26 [(2, 0), (0, a1), (0, (a1 - 10))] [] c3 Q))))) : WI K (d + 1) mX8_peace 0 [(2, 0), (0, a1), (9, 0)] [] c Q := by
  refine R_iload_n (pc' := 1) dX8_peace_0 rfl rfl ?_
  refine R_bipush (pc' := 3) dX8_peace_1 (by decide) rfl ?_
  refine R_isub (pc' := 4) dX8_peace_3 rfl ?_
  refine R_istore_n (L' := [_, _, _]) (pc' := 5) dX8_peace_4 (by decide) rfl rfl rfl ?_
  refine R_iload_n (pc' := 6) dX8_peace_5 rfl rfl ?_
  by_cases hc1 : a1 = 0
  · have h := h.1 hc1
    refine R_eqS_if (tgt := 26) (pc' := 9) dX8_peace_6 (by decide) hc1 rfl ?_
    exact WP_wk (wk_e (wk_e (wk_e wk_n))) h
  · have h := h.2 hc1
    refine R_eqD_if (tgt := 26) (pc' := 9) dX8_peace_6 (by decide) hc1 h.1 rfl ?_
    have h := h.2
    refine R_iload_n (pc' := 10) dX8_peace_9 rfl rfl ?_
    refine R_iconst (pc' := 11) dX8_peace_10 rfl ?_
    by_cases hc2 : a1 = 1
    · have h := h.1 hc2
      refine R_eqS_ic (tgt := 26) (pc' := 14) dX8_peace_11 (by decide) hc2 rfl ?_
      exact WP_wk (wk_e (wk_e (wk_e wk_n))) h
    · have h := h.2 hc2
      refine R_eqD_ic (tgt := 26) (pc' := 14) dX8_peace_11 (by decide) hc2 ⟨h.1, ir_l (by decide) (by decide)⟩ rfl ?_
      have h := h.2
      refine R_aload_n (pc' := 15) dX8_peace_14 rfl i0.1 rfl ?_
      refine R_iload_n (pc' := 16) dX8_peace_15 rfl rfl ?_
      refine Q_callVI (vs := [(0, (a1 - 10))]) (st := []) (pc' := 19) dX8_peace_16 l_RX8_86 i0 (by decide) rfl rfl (Nat.le_of_ble_eq_true rfl) rfl (Nat.zero_le _) (Nat.zero_le _) rfl ?_
      refine CI.mono h (fun c3 r4 h => ?_)
      by_cases hc5 : r4 = 0
      · have h := h.1 hc5
        refine R_neS_if (tgt := 26) (pc' := 22) dX8_peace_19 (by decide) hc5 rfl ?_
        refine R_sipush (pc' := 25) dX8_peace_22 (by decide) rfl ?_
        exact Q_iret dX8_peace_25 rfl h
      · have h := h.2 hc5
        refine R_neD_if (tgt := 26) (pc' := 22) dX8_peace_19 (by decide) hc5 h.1 rfl ?_
        have h := h.2
        exact WP_wk (wk_e (wk_e (wk_e wk_n))) h
set_option maxRecDepth 100000 in
theorem s_X8_peace_26 {K : SK} {d : Nat} {c : ct} {Q : ct → Int → Prop} (a1 : Int) (a2 : Int) (h : CV K d mX3_find [(2, 70), (2, 24), (0, 1)] c (fun c1 => (a1 = 0 → Q c1 (c1 70 3)) ∧ (¬ (a1 = 0) → ir a1 ∧ (a1 = 1 → Q c1 (c1 70 2)) ∧ (¬ (a1 = 1) → ir a1 ∧ ((0 ≤ a2 ∧ a2 < 6)) ∧ Q c1 (c1 71 a2))))) : WI K (d + 1) mX8_peace 26 [(2, 0), (0, a1), (0, a2)] [] c Q := by
  refine R_aload_n (pc' := 27) dX8_peace_26 rfl i0.1 rfl ?_
  refine Q_getfr (v := 70) (J := 9) (pc' := 30) rfl dX8_peace_27 l_RX8_66 i0 fd8_9.1 fd8_9.2.1 fd8_9.2.2.1 fd8_9.2.2.2 f0_9 rfl ?_
  refine R_aload_n (pc' := 31) dX8_peace_30 rfl i0.1 rfl ?_
  refine Q_getfr (v := 11) (J := 0) (pc' := 34) rfl dX8_peace_31 l_RX8_47 i0 fd8_0.1 fd8_0.2.1 fd8_0.2.2.1 fd8_0.2.2.2 f0_0 rfl ?_
  refine Q_getfNr (v := 24) (J := 0) (pc' := 37) rfl dX8_peace_34 l_RX8_75 i11 fd1_0.1 fd1_0.2.1 fd1_0.2.2.1 fd1_0.2.2.2 f11_0 rfl ?_
  refine R_iconst (pc' := 38) dX8_peace_37 rfl ?_
  refine Q_callVV (vs := [(2, 24), (0, 1)]) (st := []) (pc' := 41) dX8_peace_38 l_RX8_205 i70 (by decide) rfl rfl (Nat.le_of_ble_eq_true rfl) rfl (Nat.zero_le _) (Nat.zero_le _) rfl ?_
  refine CV.mono h (fun c1 h => ?_)
  refine R_iload_n (pc' := 42) dX8_peace_41 rfl rfl ?_
  by_cases hc3 : a1 = 0
  · have h := h.1 hc3
    refine R_neS_if (tgt := 53) (pc' := 45) dX8_peace_42 (by decide) hc3 rfl ?_
    refine R_aload_n (pc' := 46) dX8_peace_45 rfl i0.1 rfl ?_
    refine Q_getfr (v := 70) (J := 9) (pc' := 49) rfl dX8_peace_46 l_RX8_66 i0 fd8_9.1 fd8_9.2.1 fd8_9.2.2.1 fd8_9.2.2.2 f0_9 rfl ?_
    refine Q_getfNi (J := 3) (pc' := 52) rfl dX8_peace_49 l_RX8_213 i70 fd3_3.1 fd3_3.2.1 fd3_3.2.2.1 rfl ?_
    exact Q_iret dX8_peace_52 rfl h
  · have h := h.2 hc3
    refine R_neD_if (tgt := 53) (pc' := 45) dX8_peace_42 (by decide) hc3 h.1 rfl ?_
    have h := h.2
    refine R_iload_n (pc' := 54) dX8_peace_53 rfl rfl ?_
    refine R_iconst (pc' := 55) dX8_peace_54 rfl ?_
    by_cases hc4 : a1 = 1
    · have h := h.1 hc4
      refine R_neS_ic (tgt := 68) (pc' := 58) dX8_peace_55 (by decide) hc4 rfl ?_
      refine R_aload_n (pc' := 59) dX8_peace_58 rfl i0.1 rfl ?_
      refine Q_getfr (v := 70) (J := 9) (pc' := 62) rfl dX8_peace_59 l_RX8_66 i0 fd8_9.1 fd8_9.2.1 fd8_9.2.2.1 fd8_9.2.2.2 f0_9 rfl ?_
      refine Q_getfNi (J := 2) (pc' := 65) rfl dX8_peace_62 l_RX8_209 i70 fd3_2.1 fd3_2.2.1 fd3_2.2.2.1 rfl ?_
      refine R_goto (tgt := 77) dX8_peace_65 (by decide) ?_
      exact Q_iret dX8_peace_77 rfl h
    · have h := h.2 hc4
      refine R_neD_ic (tgt := 68) (pc' := 58) dX8_peace_55 (by decide) hc4 ⟨h.1, ir_l (by decide) (by decide)⟩ rfl ?_
      have h := h.2
      refine R_aload_n (pc' := 69) dX8_peace_68 rfl i0.1 rfl ?_
      refine Q_getfr (v := 70) (J := 9) (pc' := 72) rfl dX8_peace_69 l_RX8_66 i0 fd8_9.1 fd8_9.2.1 fd8_9.2.2.1 fd8_9.2.2.2 f0_9 rfl ?_
      refine Q_getfNr (v := 71) (J := 1) (pc' := 75) rfl dX8_peace_72 l_RX8_212 i70 fd3_1.1 fd3_1.2.1 fd3_1.2.2.1 fd3_1.2.2.2 f70_1 rfl ?_
      refine R_iload_n (pc' := 76) dX8_peace_75 rfl rfl ?_
      have hs5 := h.1
      have h := h.2
      refine Q_iaload (N := 6) (pc' := 77) rfl dX8_peace_76 i71 (by decide) hs5 rfl ?_
      exact Q_iret dX8_peace_77 rfl h
theorem e_X8_peace {K : SK} {d : Nat} {c : ct} {Q : ct → Int → Prop} (a1 : Int) (h : WI K (d + 1) mX8_peace 0 [(2, 0), (0, a1), (9, 0)] [] c Q) : CI K (d + 1) mX8_peace [(2, 0), (0, a1)] c Q := CM_ofS (by decide) (Nat.le_of_ble_eq_true rfl) _ rfl h
set_option maxRecDepth 100000 in
theorem s_X8_change_0 {K : SK} {d : Nat} {c : ct} {Q : ct → Int → Prop}  (h : CI K d mX6_fondOfAll [(2, 24)] c (fun c1 r2 => WI K (d + 1) mX8_change 16 [(2, 0), (0, (-5)), (0, r2), (0, 0), (9, 0), (9, 0)] [] c1 Q)) : WI K (d + 1) mX8_change 0 [(2, 0), (9, 0), (9, 0), (9, 0), (9, 0), (9, 0)] [] c Q := by
  refine R_bipush (pc' := 2) dX8_change_0 (by decide) rfl ?_
  refine R_istore_n (L' := [_, _, _, _, _, _]) (pc' := 3) dX8_change_2 (by decide) rfl rfl rfl ?_
  refine R_aload_n (pc' := 4) dX8_change_3 rfl i0.1 rfl ?_
  refine Q_getfr (v := 11) (J := 0) (pc' := 7) rfl dX8_change_4 l_RX8_47 i0 fd8_0.1 fd8_0.2.1 fd8_0.2.2.1 fd8_0.2.2.2 f0_0 rfl ?_
  refine Q_getfNr (v := 24) (J := 0) (pc' := 10) rfl dX8_change_7 l_RX8_75 i11 fd1_0.1 fd1_0.2.1 fd1_0.2.2.1 fd1_0.2.2.2 f11_0 rfl ?_
  refine Q_callVI (vs := []) (st := []) (pc' := 13) dX8_change_10 l_RX8_175 i24 (by decide) rfl rfl (Nat.le_of_ble_eq_true rfl) rfl (Nat.zero_le _) (Nat.zero_le _) rfl ?_
  refine CI.mono h (fun c1 r2 h => ?_)
  refine R_istore_n (L' := [_, _, _, _, _, _]) (pc' := 14) dX8_change_13 (by decide) rfl rfl rfl ?_
  refine R_iconst (pc' := 15) dX8_change_14 rfl ?_
  refine R_istore_n (L' := [_, _, _, _, _, _]) (pc' := 16) dX8_change_15 (by decide) rfl rfl rfl ?_
  exact WP_wk (wk_e (wk_e (wk_e (wk_e (wk_u (wk_u wk_n)))))) h
set_option maxRecDepth 100000 in
theorem s_X8_change_16 {K : SK} {d : Nat} {c : ct} {Q : ct → Int → Prop} (a1 : Int) (a2 : Int) (a3 : Int) (h : (ir a3 ∧ ir (c 24 10)) ∧ ((c 24 10) ≤ a3 → Q c a1) ∧ (¬ ((c 24 10) ≤ a3) → WI K (d + 1) mX8_change 35 [(2, 0), (0, a1), (0, a2), (0, a3), (0, (a3 + 1)), (9, 0)] [] c Q)) : WI K (d + 1) mX8_change 16 [(2, 0), (0, a1), (0, a2), (0, a3), (9, 0), (9, 0)] [] c Q := by
  refine R_iload_n (pc' := 17) dX8_change_16 rfl rfl ?_
  refine R_aload_n (pc' := 18) dX8_change_17 rfl i0.1 rfl ?_
  refine Q_getfr (v := 11) (J := 0) (pc' := 21) rfl dX8_change_18 l_RX8_47 i0 fd8_0.1 fd8_0.2.1 fd8_0.2.2.1 fd8_0.2.2.2 f0_0 rfl ?_
  refine Q_getfNr (v := 24) (J := 0) (pc' := 24) rfl dX8_change_21 l_RX8_75 i11 fd1_0.1 fd1_0.2.1 fd1_0.2.2.1 fd1_0.2.2.2 f11_0 rfl ?_
  refine Q_getfNi (J := 10) (pc' := 27) rfl dX8_change_24 l_RX8_78 i24 fd6_10.1 fd6_10.2.1 fd6_10.2.2.1 rfl ?_
  have hs2 := h.1
  have h := h.2
  refine R_icmp_ge (tgt := 120) (pc' := 30) dX8_change_27 (by decide) hs2.1 hs2.2 rfl (fun hc1 => ?_) (fun hc1 => ?_)
  · have h := h.1 hc1
    refine R_iload_n (pc' := 121) dX8_change_120 rfl rfl ?_
    exact Q_iret dX8_change_121 rfl h
  · have h := h.2 hc1
    refine R_iload_n (pc' := 31) dX8_change_30 rfl rfl ?_
    refine R_iconst (pc' := 32) dX8_change_31 rfl ?_
    refine R_iadd (pc' := 33) dX8_change_32 rfl ?_
    refine R_istore (L' := [_, _, _, _, _, _]) (pc' := 35) dX8_change_33 (by decide) rfl rfl rfl ?_
    exact WP_wk (wk_e (wk_e (wk_e (wk_e (wk_e (wk_u wk_n)))))) h
set_option maxRecDepth 100000 in
theorem s_X8_change_35 {K : SK} {d : Nat} {c : ct} {Q : ct → Int → Prop} (a1 : Int) (a2 : Int) (a3 : Int) (a4 : Int) (h : (ir a4 ∧ ir (c 24 10)) ∧ ((c 24 10) ≤ a4 → WI K (d + 1) mX8_change 16 [(2, 0), (0, a1), (0, a2), (0, (a3 + 1)), (9, 0), (9, 0)] [] c Q) ∧ (¬ ((c 24 10) ≤ a4) → CV K d mX6_copyFrom [(2, 59), (2, 24)] c (fun c3 => ((0 ≤ a4 ∧ a4 < 6)) ∧ CV K d mX6_moveTo [(2, 59), (0, a3), (0, (c3 62 a4))] c3 (fun c6 => CI K d mX6_fondOfAll [(2, 59)] c6 (fun c8 r9 => (ir r9 ∧ ir a2) ∧ (r9 ≤ a2 → WI K (d + 1) mX8_change 35 [(2, 0), (0, a1), (0, a2), (0, a3), (0, (a4 + 1)), (9, 0)] [] c8 Q) ∧ (¬ (r9 ≤ a2) → WI K (d + 1) mX8_change 35 [(2, 0), (0, ((10 * a3) + a4)), (0, r9), (0, a3), (0, (a4 + 1)), (9, 0)] [] c8 Q)))))) : WI K (d + 1) mX8_change 35 [(2, 0), (0, a1), (0, a2), (0, a3), (0, a4), (9, 0)] [] c Q := by
  refine R_iload (pc' := 37) dX8_change_35 rfl rfl ?_
  refine R_aload_n (pc' := 38) dX8_change_37 rfl i0.1 rfl ?_
  refine Q_getfr (v := 11) (J := 0) (pc' := 41) rfl dX8_change_38 l_RX8_47 i0 fd8_0.1 fd8_0.2.1 fd8_0.2.2.1 fd8_0.2.2.2 f0_0 rfl ?_
  refine Q_getfNr (v := 24) (J := 0) (pc' := 44) rfl dX8_change_41 l_RX8_75 i11 fd1_0.1 fd1_0.2.1 fd1_0.2.2.1 fd1_0.2.2.2 f11_0 rfl ?_
  refine Q_getfNi (J := 10) (pc' := 47) rfl dX8_change_44 l_RX8_78 i24 fd6_10.1 fd6_10.2.1 fd6_10.2.2.1 rfl ?_
  have hs2 := h.1
  have h := h.2
  refine R_icmp_ge (tgt := 114) (pc' := 50) dX8_change_47 (by decide) hs2.1 hs2.2 rfl (fun hc1 => ?_) (fun hc1 => ?_)
  · have h := h.1 hc1
    refine R_iinc (L' := [_, _, _, _, _, _]) (pc' := 117) dX8_change_114 rfl (by decide) rfl rfl rfl ?_
    refine R_goto (tgt := 16) dX8_change_117 (by decide) ?_
    exact WP_wk (wk_e (wk_e (wk_e (wk_e (wk_u (wk_u wk_n)))))) h
  · have h := h.2 hc1
    refine R_aload_n (pc' := 51) dX8_change_50 rfl i0.1 rfl ?_
    refine Q_getfr (v := 59) (J := 3) (pc' := 54) rfl dX8_change_51 l_RX8_57 i0 fd8_3.1 fd8_3.2.1 fd8_3.2.2.1 fd8_3.2.2.2 f0_3 rfl ?_
    refine R_aload_n (pc' := 55) dX8_change_54 rfl i0.1 rfl ?_
    refine Q_getfr (v := 11) (J := 0) (pc' := 58) rfl dX8_change_55 l_RX8_47 i0 fd8_0.1 fd8_0.2.1 fd8_0.2.2.1 fd8_0.2.2.2 f0_0 rfl ?_
    refine Q_getfNr (v := 24) (J := 0) (pc' := 61) rfl dX8_change_58 l_RX8_75 i11 fd1_0.1 fd1_0.2.1 fd1_0.2.2.1 fd1_0.2.2.2 f11_0 rfl ?_
    refine Q_callVV (vs := [(2, 24)]) (st := []) (pc' := 64) dX8_change_61 l_RX8_196 i59 (by decide) rfl rfl (Nat.le_of_ble_eq_true rfl) rfl (Nat.zero_le _) (Nat.zero_le _) rfl ?_
    refine CV.mono h (fun c3 h => ?_)
    refine R_aload_n (pc' := 65) dX8_change_64 rfl i0.1 rfl ?_
    refine Q_getfr (v := 59) (J := 3) (pc' := 68) rfl dX8_change_65 l_RX8_57 i0 fd8_3.1 fd8_3.2.1 fd8_3.2.2.1 fd8_3.2.2.2 f0_3 rfl ?_
    refine R_iload_n (pc' := 69) dX8_change_68 rfl rfl ?_
    refine R_aload_n (pc' := 70) dX8_change_69 rfl i0.1 rfl ?_
    refine Q_getfr (v := 59) (J := 3) (pc' := 73) rfl dX8_change_70 l_RX8_57 i0 fd8_3.1 fd8_3.2.1 fd8_3.2.2.1 fd8_3.2.2.2 f0_3 rfl ?_
    refine Q_getfNr (v := 62) (J := 2) (pc' := 76) rfl dX8_change_73 l_RX8_96 i59 fd6_2.1 fd6_2.2.1 fd6_2.2.2.1 fd6_2.2.2.2 f59_2 rfl ?_
    refine R_iload (pc' := 78) dX8_change_76 rfl rfl ?_
    have hs5 := h.1
    have h := h.2
    refine Q_iaload (N := 6) (pc' := 79) rfl dX8_change_78 i62 (by decide) hs5 rfl ?_
    refine Q_callVV (vs := [(0, a3), (0, (c3 62 a4))]) (st := []) (pc' := 82) dX8_change_79 l_RX8_126 i59 (by decide) rfl rfl (Nat.le_of_ble_eq_true rfl) rfl (Nat.zero_le _) (Nat.zero_le _) rfl ?_
    refine CV.mono h (fun c6 h => ?_)
    refine R_aload_n (pc' := 83) dX8_change_82 rfl i0.1 rfl ?_
    refine Q_getfr (v := 59) (J := 3) (pc' := 86) rfl dX8_change_83 l_RX8_57 i0 fd8_3.1 fd8_3.2.1 fd8_3.2.2.1 fd8_3.2.2.2 f0_3 rfl ?_
    refine Q_callVI (vs := []) (st := []) (pc' := 89) dX8_change_86 l_RX8_175 i59 (by decide) rfl rfl (Nat.le_of_ble_eq_true rfl) rfl (Nat.zero_le _) (Nat.zero_le _) rfl ?_
    refine CI.mono h (fun c8 r9 h => ?_)
    refine R_istore (L' := [_, _, _, _, _, _]) (pc' := 91) dX8_change_89 (by decide) rfl rfl rfl ?_
    refine R_iload (pc' := 93) dX8_change_91 rfl rfl ?_
    refine R_iload_n (pc' := 94) dX8_change_93 rfl rfl ?_
    have hs11 := h.1
    have h := h.2
    refine R_icmp_le (tgt := 108) (pc' := 97) dX8_change_94 (by decide) hs11.1 hs11.2 rfl (fun hc10 => ?_) (fun hc10 => ?_)
    · have h := h.1 hc10
      refine R_iinc (L' := [_, _, _, _, _, _]) (pc' := 111) dX8_change_108 rfl (by decide) rfl rfl rfl ?_
      refine R_goto (tgt := 35) dX8_change_111 (by decide) ?_
      exact WP_wk (wk_e (wk_e (wk_e (wk_e (wk_e (wk_u wk_n)))))) h
    · have h := h.2 hc10
      refine R_iload (pc' := 99) dX8_change_97 rfl rfl ?_
      refine R_istore_n (L' := [_, _, _, _, _, _]) (pc' := 100) dX8_change_99 (by decide) rfl rfl rfl ?_
      refine R_bipush (pc' := 102) dX8_change_100 (by decide) rfl ?_
      refine R_iload_n (pc' := 103) dX8_change_102 rfl rfl ?_
      refine R_imul (pc' := 104) dX8_change_103 rfl ?_
      refine R_iload (pc' := 106) dX8_change_104 rfl rfl ?_
      refine R_iadd (pc' := 107) dX8_change_106 rfl ?_
      refine R_istore_n (L' := [_, _, _, _, _, _]) (pc' := 108) dX8_change_107 (by decide) rfl rfl rfl ?_
      refine R_iinc (L' := [_, _, _, _, _, _]) (pc' := 111) dX8_change_108 rfl (by decide) rfl rfl rfl ?_
      refine R_goto (tgt := 35) dX8_change_111 (by decide) ?_
      exact WP_wk (wk_e (wk_e (wk_e (wk_e (wk_e (wk_u wk_n)))))) h
theorem e_X8_change {K : SK} {d : Nat} {c : ct} {Q : ct → Int → Prop}  (h : WI K (d + 1) mX8_change 0 [(2, 0), (9, 0), (9, 0), (9, 0), (9, 0), (9, 0)] [] c Q) : CI K (d + 1) mX8_change [(2, 0)] c Q := CM_ofS (by decide) (Nat.le_of_ble_eq_true rfl) _ rfl h
set_option maxRecDepth 100000 in
theorem s_X8_seat_0 {K : SK} {d : Nat} {c : ct} {Q : ct → Int → Prop} (a1 : Int) (h : CI K d mX8_isGuest [(2, 0), (0, a1)] c (fun c1 r2 => (r2 = 0 → Q c1 (-1)) ∧ (¬ (r2 = 0) → ir r2 ∧ WI K (d + 1) mX8_seat 17 [(2, 0), (0, a1), (0, 0), (0, 0), (0, 0), (9, 0)] [] c1 Q))) : WI K (d + 1) mX8_seat 0 [(2, 0), (0, a1), (9, 0), (9, 0), (9, 0), (9, 0)] [] c Q := by
  refine R_aload_n (pc' := 1) dX8_seat_0 rfl i0.1 rfl ?_
  refine R_iload_n (pc' := 2) dX8_seat_1 rfl rfl ?_
  refine Q_callVI (vs := [(0, a1)]) (st := []) (pc' := 5) dX8_seat_2 l_RX8_86 i0 (by decide) rfl rfl (Nat.le_of_ble_eq_true rfl) rfl (Nat.zero_le _) (Nat.zero_le _) rfl ?_
  refine CI.mono h (fun c1 r2 h => ?_)
  by_cases hc3 : r2 = 0
  · have h := h.1 hc3
    refine R_neS_if (tgt := 10) (pc' := 8) dX8_seat_5 (by decide) hc3 rfl ?_
    refine R_iconst (pc' := 9) dX8_seat_8 rfl ?_
    exact Q_iret dX8_seat_9 rfl h
  · have h := h.2 hc3
    refine R_neD_if (tgt := 10) (pc' := 8) dX8_seat_5 (by decide) hc3 h.1 rfl ?_
    have h := h.2
    refine R_iconst (pc' := 11) dX8_seat_10 rfl ?_
    refine R_istore_n (L' := [_, _, _, _, _, _]) (pc' := 12) dX8_seat_11 (by decide) rfl rfl rfl ?_
    refine R_iconst (pc' := 13) dX8_seat_12 rfl ?_
    refine R_istore_n (L' := [_, _, _, _, _, _]) (pc' := 14) dX8_seat_13 (by decide) rfl rfl rfl ?_
    refine R_iconst (pc' := 15) dX8_seat_14 rfl ?_
    refine R_istore (L' := [_, _, _, _, _, _]) (pc' := 17) dX8_seat_15 (by decide) rfl rfl rfl ?_
    exact WP_wk (wk_e (wk_e (wk_e (wk_e (wk_e (wk_u wk_n)))))) h
set_option maxRecDepth 100000 in
theorem s_X8_seat_17 {K : SK} {d : Nat} {c : ct} {Q : ct → Int → Prop} (a1 : Int) (a2 : Int) (a3 : Int) (a4 : Int) (h : (ir a4) ∧ (6 ≤ a4 → Q c a2) ∧ (¬ (6 ≤ a4) → CV K d mX6_copyFrom [(2, 59), (2, 24)] c (fun c3 => CV K d mX6_moveTo [(2, 59), (0, a1), (0, a4)] c3 (fun c5 => CI K d mX6_fondOf [(2, 59), (0, a1)] c5 (fun c7 r8 => (a4 = 0 → WI K (d + 1) mX8_seat 17 [(2, 0), (0, a1), (0, a4), (0, r8), (0, (a4 + 1)), (9, 0)] [] c7 Q) ∧ (¬ (a4 = 0) → ir a4 ∧ (ir r8 ∧ ir a3) ∧ (r8 ≤ a3 → WI K (d + 1) mX8_seat 17 [(2, 0), (0, a1), (0, a2), (0, a3), (0, (a4 + 1)), (9, 0)] [] c7 Q) ∧ (¬ (r8 ≤ a3) → WI K (d + 1) mX8_seat 17 [(2, 0), (0, a1), (0, a4), (0, r8), (0, (a4 + 1)), (9, 0)] [] c7 Q))))))) : WI K (d + 1) mX8_seat 17 [(2, 0), (0, a1), (0, a2), (0, a3), (0, a4), (9, 0)] [] c Q := by
  refine R_iload (pc' := 19) dX8_seat_17 rfl rfl ?_
  refine R_bipush (pc' := 21) dX8_seat_19 (by decide) rfl ?_
  have hs2 := h.1
  have h := h.2
  refine R_icmp_ge (tgt := 81) (pc' := 24) dX8_seat_21 (by decide) hs2 (ir_l (by decide) (by decide)) rfl (fun hc1 => ?_) (fun hc1 => ?_)
  · have h := h.1 hc1
    refine R_iload_n (pc' := 82) dX8_seat_81 rfl rfl ?_
    exact Q_iret dX8_seat_82 rfl h
  · have h := h.2 hc1
    refine R_aload_n (pc' := 25) dX8_seat_24 rfl i0.1 rfl ?_
    refine Q_getfr (v := 59) (J := 3) (pc' := 28) rfl dX8_seat_25 l_RX8_57 i0 fd8_3.1 fd8_3.2.1 fd8_3.2.2.1 fd8_3.2.2.2 f0_3 rfl ?_
    refine R_aload_n (pc' := 29) dX8_seat_28 rfl i0.1 rfl ?_
    refine Q_getfr (v := 11) (J := 0) (pc' := 32) rfl dX8_seat_29 l_RX8_47 i0 fd8_0.1 fd8_0.2.1 fd8_0.2.2.1 fd8_0.2.2.2 f0_0 rfl ?_
    refine Q_getfNr (v := 24) (J := 0) (pc' := 35) rfl dX8_seat_32 l_RX8_75 i11 fd1_0.1 fd1_0.2.1 fd1_0.2.2.1 fd1_0.2.2.2 f11_0 rfl ?_
    refine Q_callVV (vs := [(2, 24)]) (st := []) (pc' := 38) dX8_seat_35 l_RX8_196 i59 (by decide) rfl rfl (Nat.le_of_ble_eq_true rfl) rfl (Nat.zero_le _) (Nat.zero_le _) rfl ?_
    refine CV.mono h (fun c3 h => ?_)
    refine R_aload_n (pc' := 39) dX8_seat_38 rfl i0.1 rfl ?_
    refine Q_getfr (v := 59) (J := 3) (pc' := 42) rfl dX8_seat_39 l_RX8_57 i0 fd8_3.1 fd8_3.2.1 fd8_3.2.2.1 fd8_3.2.2.2 f0_3 rfl ?_
    refine R_iload_n (pc' := 43) dX8_seat_42 rfl rfl ?_
    refine R_iload (pc' := 45) dX8_seat_43 rfl rfl ?_
    refine Q_callVV (vs := [(0, a1), (0, a4)]) (st := []) (pc' := 48) dX8_seat_45 l_RX8_126 i59 (by decide) rfl rfl (Nat.le_of_ble_eq_true rfl) rfl (Nat.zero_le _) (Nat.zero_le _) rfl ?_
    refine CV.mono h (fun c5 h => ?_)
    refine R_aload_n (pc' := 49) dX8_seat_48 rfl i0.1 rfl ?_
    refine Q_getfr (v := 59) (J := 3) (pc' := 52) rfl dX8_seat_49 l_RX8_57 i0 fd8_3.1 fd8_3.2.1 fd8_3.2.2.1 fd8_3.2.2.2 f0_3 rfl ?_
    refine R_iload_n (pc' := 53) dX8_seat_52 rfl rfl ?_
    refine Q_callVI (vs := [(0, a1)]) (st := []) (pc' := 56) dX8_seat_53 l_RX8_117 i59 (by decide) rfl rfl (Nat.le_of_ble_eq_true rfl) rfl (Nat.zero_le _) (Nat.zero_le _) rfl ?_
    refine CI.mono h (fun c7 r8 h => ?_)
    refine R_istore (L' := [_, _, _, _, _, _]) (pc' := 58) dX8_seat_56 (by decide) rfl rfl rfl ?_
    refine R_iload (pc' := 60) dX8_seat_58 rfl rfl ?_
    by_cases hc9 : a4 = 0
    · have h := h.1 hc9
      refine R_eqS_if (tgt := 69) (pc' := 63) dX8_seat_60 (by decide) hc9 rfl ?_
      refine R_iload (pc' := 71) dX8_seat_69 rfl rfl ?_
      refine R_istore_n (L' := [_, _, _, _, _, _]) (pc' := 72) dX8_seat_71 (by decide) rfl rfl rfl ?_
      refine R_iload (pc' := 74) dX8_seat_72 rfl rfl ?_
      refine R_istore_n (L' := [_, _, _, _, _, _]) (pc' := 75) dX8_seat_74 (by decide) rfl rfl rfl ?_
      refine R_iinc (L' := [_, _, _, _, _, _]) (pc' := 78) dX8_seat_75 rfl (by decide) rfl rfl rfl ?_
      refine R_goto (tgt := 17) dX8_seat_78 (by decide) ?_
      exact WP_wk (wk_e (wk_e (wk_e (wk_e (wk_e (wk_u wk_n)))))) h
    · have h := h.2 hc9
      refine R_eqD_if (tgt := 69) (pc' := 63) dX8_seat_60 (by decide) hc9 h.1 rfl ?_
      have h := h.2
      refine R_iload (pc' := 65) dX8_seat_63 rfl rfl ?_
      refine R_iload_n (pc' := 66) dX8_seat_65 rfl rfl ?_
      have hs11 := h.1
      have h := h.2
      refine R_icmp_le (tgt := 75) (pc' := 69) dX8_seat_66 (by decide) hs11.1 hs11.2 rfl (fun hc10 => ?_) (fun hc10 => ?_)
      · have h := h.1 hc10
        refine R_iinc (L' := [_, _, _, _, _, _]) (pc' := 78) dX8_seat_75 rfl (by decide) rfl rfl rfl ?_
        refine R_goto (tgt := 17) dX8_seat_78 (by decide) ?_
        exact WP_wk (wk_e (wk_e (wk_e (wk_e (wk_e (wk_u wk_n)))))) h
      · have h := h.2 hc10
        refine R_iload (pc' := 71) dX8_seat_69 rfl rfl ?_
        refine R_istore_n (L' := [_, _, _, _, _, _]) (pc' := 72) dX8_seat_71 (by decide) rfl rfl rfl ?_
        refine R_iload (pc' := 74) dX8_seat_72 rfl rfl ?_
        refine R_istore_n (L' := [_, _, _, _, _, _]) (pc' := 75) dX8_seat_74 (by decide) rfl rfl rfl ?_
        refine R_iinc (L' := [_, _, _, _, _, _]) (pc' := 78) dX8_seat_75 rfl (by decide) rfl rfl rfl ?_
        refine R_goto (tgt := 17) dX8_seat_78 (by decide) ?_
        exact WP_wk (wk_e (wk_e (wk_e (wk_e (wk_e (wk_u wk_n)))))) h
theorem e_X8_seat {K : SK} {d : Nat} {c : ct} {Q : ct → Int → Prop} (a1 : Int) (h : WI K (d + 1) mX8_seat 0 [(2, 0), (0, a1), (9, 0), (9, 0), (9, 0), (9, 0)] [] c Q) : CI K (d + 1) mX8_seat [(2, 0), (0, a1)] c Q := CM_ofS (by decide) (Nat.le_of_ble_eq_true rfl) _ rfl h
set_option maxRecDepth 100000 in
theorem s_X8_see_0 {K : SK} {d : Nat} {c : ct} {Q : ct → Int → Prop} (a1 : Int) (a2 : Int) (a3 : Int) (h : (a1 = (-1) → CI K d mX5_empty [(2, 12)] c (fun c2 r3 => Q c2 r3)) ∧ (¬ (a1 = (-1)) → ir a1 ∧ CI K d mX8_isGuest [(2, 0), (0, a1)] c (fun c4 r5 => (r5 = 0 → Q c4 (-1)) ∧ (¬ (r5 = 0) → ir r5 ∧ (ir a3) ∧ (a3 < 0 → Q c4 (-2)) ∧ (¬ (a3 < 0) → (ir a3) ∧ (a3 ≤ 20 → CI K d mX8_oneIf [(0, a2)] c4 (fun c11 r12 => CI K d mX5_add [(2, 12), (0, a1), (0, r12), (0, a3)] c11 (fun c13 r14 => Q c13 r14))) ∧ (¬ (a3 ≤ 20) → Q c4 (-2))))))) : WI K (d + 1) mX8_see 0 [(2, 0), (0, a1), (0, a2), (0, a3)] [] c Q := by
  refine R_iload_n (pc' := 1) dX8_see_0 rfl rfl ?_
  refine R_iconst (pc' := 2) dX8_see_1 rfl ?_
  by_cases hc1 : a1 = (-1)
  · have h := h.1 hc1
    refine R_neS_ic (tgt := 16) (pc' := 5) dX8_see_2 (by decide) hc1 rfl ?_
    refine R_aload_n (pc' := 6) dX8_see_5 rfl i0.1 rfl ?_
    refine Q_getfr (v := 11) (J := 0) (pc' := 9) rfl dX8_see_6 l_RX8_47 i0 fd8_0.1 fd8_0.2.1 fd8_0.2.2.1 fd8_0.2.2.2 f0_0 rfl ?_
    refine Q_getfNr (v := 12) (J := 1) (pc' := 12) rfl dX8_see_9 l_RX8_215 i11 fd1_1.1 fd1_1.2.1 fd1_1.2.2.1 fd1_1.2.2.2 f11_1 rfl ?_
    refine Q_callVI (vs := []) (st := []) (pc' := 15) dX8_see_12 l_RX8_219 i12 (by decide) rfl rfl (Nat.le_of_ble_eq_true rfl) rfl (Nat.zero_le _) (Nat.zero_le _) rfl ?_
    refine CI.mono h (fun c2 r3 h => ?_)
    exact Q_iret dX8_see_15 rfl h
  · have h := h.2 hc1
    refine R_neD_ic (tgt := 16) (pc' := 5) dX8_see_2 (by decide) hc1 ⟨h.1, ir_l (by decide) (by decide)⟩ rfl ?_
    have h := h.2
    refine R_aload_n (pc' := 17) dX8_see_16 rfl i0.1 rfl ?_
    refine R_iload_n (pc' := 18) dX8_see_17 rfl rfl ?_
    refine Q_callVI (vs := [(0, a1)]) (st := []) (pc' := 21) dX8_see_18 l_RX8_86 i0 (by decide) rfl rfl (Nat.le_of_ble_eq_true rfl) rfl (Nat.zero_le _) (Nat.zero_le _) rfl ?_
    refine CI.mono h (fun c4 r5 h => ?_)
    by_cases hc6 : r5 = 0
    · have h := h.1 hc6
      refine R_neS_if (tgt := 26) (pc' := 24) dX8_see_21 (by decide) hc6 rfl ?_
      refine R_iconst (pc' := 25) dX8_see_24 rfl ?_
      exact Q_iret dX8_see_25 rfl h
    · have h := h.2 hc6
      refine R_neD_if (tgt := 26) (pc' := 24) dX8_see_21 (by decide) hc6 h.1 rfl ?_
      have h := h.2
      refine R_iload_n (pc' := 27) dX8_see_26 rfl rfl ?_
      have hs8 := h.1
      have h := h.2
      refine R_if_lt (tgt := 36) (pc' := 30) dX8_see_27 (by decide) hs8  rfl (fun hc7 => ?_) (fun hc7 => ?_)
      · have h := h.1 hc7
        refine R_bipush (pc' := 38) dX8_see_36 (by decide) rfl ?_
        exact Q_iret dX8_see_38 rfl h
      · have h := h.2 hc7
        refine R_iload_n (pc' := 31) dX8_see_30 rfl rfl ?_
        refine R_bipush (pc' := 33) dX8_see_31 (by decide) rfl ?_
        have hs10 := h.1
        have h := h.2
        refine R_icmp_le (tgt := 39) (pc' := 36) dX8_see_33 (by decide) hs10 (ir_l (by decide) (by decide)) rfl (fun hc9 => ?_) (fun hc9 => ?_)
        · have h := h.1 hc9
          refine R_aload_n (pc' := 40) dX8_see_39 rfl i0.1 rfl ?_
          refine Q_getfr (v := 11) (J := 0) (pc' := 43) rfl dX8_see_40 l_RX8_47 i0 fd8_0.1 fd8_0.2.1 fd8_0.2.2.1 fd8_0.2.2.2 f0_0 rfl ?_
          refine Q_getfNr (v := 12) (J := 1) (pc' := 46) rfl dX8_see_43 l_RX8_215 i11 fd1_1.1 fd1_1.2.1 fd1_1.2.2.1 fd1_1.2.2.2 f11_1 rfl ?_
          refine R_iload_n (pc' := 47) dX8_see_46 rfl rfl ?_
          refine R_iload_n (pc' := 48) dX8_see_47 rfl rfl ?_
          refine Q_callSI (vs := [(0, a2)]) (st := [(0, a1), (2, 12)]) (pc' := 51) dX8_see_48 l_RX8_103 rfl (Nat.le_of_ble_eq_true rfl) rfl (Nat.zero_le _) (Nat.zero_le _) rfl ?_
          refine CI.mono h (fun c11 r12 h => ?_)
          refine R_iload_n (pc' := 52) dX8_see_51 rfl rfl ?_
          refine Q_callVI (vs := [(0, a1), (0, r12), (0, a3)]) (st := []) (pc' := 55) dX8_see_52 l_RX8_223 i12 (by decide) rfl rfl (Nat.le_of_ble_eq_true rfl) rfl (Nat.zero_le _) (Nat.zero_le _) rfl ?_
          refine CI.mono h (fun c13 r14 h => ?_)
          exact Q_iret dX8_see_55 rfl h
        · have h := h.2 hc9
          refine R_bipush (pc' := 38) dX8_see_36 (by decide) rfl ?_
          exact Q_iret dX8_see_38 rfl h
theorem e_X8_see {K : SK} {d : Nat} {c : ct} {Q : ct → Int → Prop} (a1 : Int) (a2 : Int) (a3 : Int) (h : WI K (d + 1) mX8_see 0 [(2, 0), (0, a1), (0, a2), (0, a3)] [] c Q) : CI K (d + 1) mX8_see [(2, 0), (0, a1), (0, a2), (0, a3)] c Q := CM_ofS (by decide) (Nat.le_of_ble_eq_true rfl) _ rfl h
set_option maxRecDepth 100000 in
theorem s_X8_where_0 {K : SK} {d : Nat} {c : ct} {Q : ct → Int → Prop} (a1 : Int) (h : CI K d mX8_isGuest [(2, 0), (0, a1)] c (fun c1 r2 => (r2 = 0 → Q c1 (-1)) ∧ (¬ (r2 = 0) → ir r2 ∧ WI K (d + 1) mX8_where 14 [(2, 0), (0, a1), (0, 0), (0, 0)] [] c1 Q))) : WI K (d + 1) mX8_where 0 [(2, 0), (0, a1), (9, 0), (9, 0)] [] c Q := by
  refine R_aload_n (pc' := 1) dX8_where_0 rfl i0.1 rfl ?_
  refine R_iload_n (pc' := 2) dX8_where_1 rfl rfl ?_
  refine Q_callVI (vs := [(0, a1)]) (st := []) (pc' := 5) dX8_where_2 l_RX8_86 i0 (by decide) rfl rfl (Nat.le_of_ble_eq_true rfl) rfl (Nat.zero_le _) (Nat.zero_le _) rfl ?_
  refine CI.mono h (fun c1 r2 h => ?_)
  by_cases hc3 : r2 = 0
  · have h := h.1 hc3
    refine R_neS_if (tgt := 10) (pc' := 8) dX8_where_5 (by decide) hc3 rfl ?_
    refine R_iconst (pc' := 9) dX8_where_8 rfl ?_
    exact Q_iret dX8_where_9 rfl h
  · have h := h.2 hc3
    refine R_neD_if (tgt := 10) (pc' := 8) dX8_where_5 (by decide) hc3 h.1 rfl ?_
    have h := h.2
    refine R_iconst (pc' := 11) dX8_where_10 rfl ?_
    refine R_istore_n (L' := [_, _, _, _]) (pc' := 12) dX8_where_11 (by decide) rfl rfl rfl ?_
    refine R_iconst (pc' := 13) dX8_where_12 rfl ?_
    refine R_istore_n (L' := [_, _, _, _]) (pc' := 14) dX8_where_13 (by decide) rfl rfl rfl ?_
    exact WP_wk (wk_e (wk_e (wk_e (wk_e wk_n)))) h
set_option maxRecDepth 100000 in
theorem s_X8_where_14 {K : SK} {d : Nat} {c : ct} {Q : ct → Int → Prop} (a1 : Int) (a2 : Int) (a3 : Int) (h : (ir a3) ∧ (6 ≤ a3 → Q c a2) ∧ (¬ (6 ≤ a3) → CV K d mX6_copyFrom [(2, 59), (2, 24)] c (fun c3 => CV K d mX6_moveTo [(2, 59), (0, a1), (0, a3)] c3 (fun c5 => CI K d mX8_isAllSeenSo [(2, 0)] c5 (fun c7 r8 => (r8 = 0 → WI K (d + 1) mX8_where 14 [(2, 0), (0, a1), (0, a2), (0, (a3 + 1))] [] c7 Q) ∧ (¬ (r8 = 0) → ir r8 ∧ WI K (d + 1) mX8_where 14 [(2, 0), (0, a1), (0, (bOr a2 (bShl 1 a3))), (0, (a3 + 1))] [] c7 Q)))))) : WI K (d + 1) mX8_where 14 [(2, 0), (0, a1), (0, a2), (0, a3)] [] c Q := by
  refine R_iload_n (pc' := 15) dX8_where_14 rfl rfl ?_
  refine R_bipush (pc' := 17) dX8_where_15 (by decide) rfl ?_
  have hs2 := h.1
  have h := h.2
  refine R_icmp_ge (tgt := 62) (pc' := 20) dX8_where_17 (by decide) hs2 (ir_l (by decide) (by decide)) rfl (fun hc1 => ?_) (fun hc1 => ?_)
  · have h := h.1 hc1
    refine R_iload_n (pc' := 63) dX8_where_62 rfl rfl ?_
    exact Q_iret dX8_where_63 rfl h
  · have h := h.2 hc1
    refine R_aload_n (pc' := 21) dX8_where_20 rfl i0.1 rfl ?_
    refine Q_getfr (v := 59) (J := 3) (pc' := 24) rfl dX8_where_21 l_RX8_57 i0 fd8_3.1 fd8_3.2.1 fd8_3.2.2.1 fd8_3.2.2.2 f0_3 rfl ?_
    refine R_aload_n (pc' := 25) dX8_where_24 rfl i0.1 rfl ?_
    refine Q_getfr (v := 11) (J := 0) (pc' := 28) rfl dX8_where_25 l_RX8_47 i0 fd8_0.1 fd8_0.2.1 fd8_0.2.2.1 fd8_0.2.2.2 f0_0 rfl ?_
    refine Q_getfNr (v := 24) (J := 0) (pc' := 31) rfl dX8_where_28 l_RX8_75 i11 fd1_0.1 fd1_0.2.1 fd1_0.2.2.1 fd1_0.2.2.2 f11_0 rfl ?_
    refine Q_callVV (vs := [(2, 24)]) (st := []) (pc' := 34) dX8_where_31 l_RX8_196 i59 (by decide) rfl rfl (Nat.le_of_ble_eq_true rfl) rfl (Nat.zero_le _) (Nat.zero_le _) rfl ?_
    refine CV.mono h (fun c3 h => ?_)
    refine R_aload_n (pc' := 35) dX8_where_34 rfl i0.1 rfl ?_
    refine Q_getfr (v := 59) (J := 3) (pc' := 38) rfl dX8_where_35 l_RX8_57 i0 fd8_3.1 fd8_3.2.1 fd8_3.2.2.1 fd8_3.2.2.2 f0_3 rfl ?_
    refine R_iload_n (pc' := 39) dX8_where_38 rfl rfl ?_
    refine R_iload_n (pc' := 40) dX8_where_39 rfl rfl ?_
    refine Q_callVV (vs := [(0, a1), (0, a3)]) (st := []) (pc' := 43) dX8_where_40 l_RX8_126 i59 (by decide) rfl rfl (Nat.le_of_ble_eq_true rfl) rfl (Nat.zero_le _) (Nat.zero_le _) rfl ?_
    refine CV.mono h (fun c5 h => ?_)
    refine R_aload_n (pc' := 44) dX8_where_43 rfl i0.1 rfl ?_
    refine Q_callVI (vs := []) (st := []) (pc' := 47) dX8_where_44 l_RX8_227 i0 (by decide) rfl rfl (Nat.le_of_ble_eq_true rfl) rfl (Nat.zero_le _) (Nat.zero_le _) rfl ?_
    refine CI.mono h (fun c7 r8 h => ?_)
    by_cases hc9 : r8 = 0
    · have h := h.1 hc9
      refine R_eqS_if (tgt := 56) (pc' := 50) dX8_where_47 (by decide) hc9 rfl ?_
      refine R_iinc (L' := [_, _, _, _]) (pc' := 59) dX8_where_56 rfl (by decide) rfl rfl rfl ?_
      refine R_goto (tgt := 14) dX8_where_59 (by decide) ?_
      exact WP_wk (wk_e (wk_e (wk_e (wk_e wk_n)))) h
    · have h := h.2 hc9
      refine R_eqD_if (tgt := 56) (pc' := 50) dX8_where_47 (by decide) hc9 h.1 rfl ?_
      have h := h.2
      refine R_iload_n (pc' := 51) dX8_where_50 rfl rfl ?_
      refine R_iconst (pc' := 52) dX8_where_51 rfl ?_
      refine R_iload_n (pc' := 53) dX8_where_52 rfl rfl ?_
      refine R_ishl (pc' := 54) dX8_where_53 rfl ?_
      refine R_ior (pc' := 55) dX8_where_54 rfl ?_
      refine R_istore_n (L' := [_, _, _, _]) (pc' := 56) dX8_where_55 (by decide) rfl rfl rfl ?_
      refine R_iinc (L' := [_, _, _, _]) (pc' := 59) dX8_where_56 rfl (by decide) rfl rfl rfl ?_
      refine R_goto (tgt := 14) dX8_where_59 (by decide) ?_
      exact WP_wk (wk_e (wk_e (wk_e (wk_e wk_n)))) h
theorem e_X8_where {K : SK} {d : Nat} {c : ct} {Q : ct → Int → Prop} (a1 : Int) (h : WI K (d + 1) mX8_where 0 [(2, 0), (0, a1), (9, 0), (9, 0)] [] c Q) : CI K (d + 1) mX8_where [(2, 0), (0, a1)] c Q := CM_ofS (by decide) (Nat.le_of_ble_eq_true rfl) _ rfl h
set_option maxRecDepth 100000 in
theorem s_X8_can_0 {K : SK} {d : Nat} {c : ct} {Q : ct → Int → Prop} (a1 : Int) (a2 : Int) (h : CI K d mX8_isGuest [(2, 0), (0, a1)] c (fun c1 r2 => (r2 = 0 → Q c1 (-1)) ∧ (¬ (r2 = 0) → ir r2 ∧ (ir a2) ∧ (a2 < 0 → Q c1 (-1)) ∧ (¬ (a2 < 0) → (ir a2) ∧ (a2 ≤ 1 → WI K (d + 1) mX8_can 28 [(2, 0), (0, a1), (0, a2), (0, 0), (0, (-5)), (0, 0)] [] c1 Q) ∧ (¬ (a2 ≤ 1) → Q c1 (-1)))))) : WI K (d + 1) mX8_can 0 [(2, 0), (0, a1), (0, a2), (9, 0), (9, 0), (9, 0)] [] c Q := by
  refine R_aload_n (pc' := 1) dX8_can_0 rfl i0.1 rfl ?_
  refine R_iload_n (pc' := 2) dX8_can_1 rfl rfl ?_
  refine Q_callVI (vs := [(0, a1)]) (st := []) (pc' := 5) dX8_can_2 l_RX8_86 i0 (by decide) rfl rfl (Nat.le_of_ble_eq_true rfl) rfl (Nat.zero_le _) (Nat.zero_le _) rfl ?_
  refine CI.mono h (fun c1 r2 h => ?_)
  by_cases hc3 : r2 = 0
  · have h := h.1 hc3
    refine R_eqS_if (tgt := 17) (pc' := 8) dX8_can_5 (by decide) hc3 rfl ?_
    refine R_iconst (pc' := 18) dX8_can_17 rfl ?_
    exact Q_iret dX8_can_18 rfl h
  · have h := h.2 hc3
    refine R_eqD_if (tgt := 17) (pc' := 8) dX8_can_5 (by decide) hc3 h.1 rfl ?_
    have h := h.2
    refine R_iload_n (pc' := 9) dX8_can_8 rfl rfl ?_
    have hs5 := h.1
    have h := h.2
    refine R_if_lt (tgt := 17) (pc' := 12) dX8_can_9 (by decide) hs5  rfl (fun hc4 => ?_) (fun hc4 => ?_)
    · have h := h.1 hc4
      refine R_iconst (pc' := 18) dX8_can_17 rfl ?_
      exact Q_iret dX8_can_18 rfl h
    · have h := h.2 hc4
      refine R_iload_n (pc' := 13) dX8_can_12 rfl rfl ?_
      refine R_iconst (pc' := 14) dX8_can_13 rfl ?_
      have hs7 := h.1
      have h := h.2
      refine R_icmp_le (tgt := 19) (pc' := 17) dX8_can_14 (by decide) hs7 (ir_l (by decide) (by decide)) rfl (fun hc6 => ?_) (fun hc6 => ?_)
      · have h := h.1 hc6
        refine R_iconst (pc' := 20) dX8_can_19 rfl ?_
        refine R_istore_n (L' := [_, _, _, _, _, _]) (pc' := 21) dX8_can_20 (by decide) rfl rfl rfl ?_
        refine R_bipush (pc' := 23) dX8_can_21 (by decide) rfl ?_
        refine R_istore (L' := [_, _, _, _, _, _]) (pc' := 25) dX8_can_23 (by decide) rfl rfl rfl ?_
        refine R_iconst (pc' := 26) dX8_can_25 rfl ?_
        refine R_istore (L' := [_, _, _, _, _, _]) (pc' := 28) dX8_can_26 (by decide) rfl rfl rfl ?_
        exact WP_wk (wk_e (wk_e (wk_e (wk_e (wk_e (wk_e wk_n)))))) h
      · have h := h.2 hc6
        refine R_iconst (pc' := 18) dX8_can_17 rfl ?_
        exact Q_iret dX8_can_18 rfl h
set_option maxRecDepth 100000 in
theorem s_X8_can_28 {K : SK} {d : Nat} {c : ct} {Q : ct → Int → Prop} (a1 : Int) (a2 : Int) (a3 : Int) (a4 : Int) (a5 : Int) (h : (ir a5) ∧ (9 < a5 → (a2 = 0 → Q c a3) ∧ (¬ (a2 = 0) → ir a2 ∧ Q c a4)) ∧ (¬ (9 < a5) → CV K d mX6_copyFrom [(2, 59), (2, 24)] c (fun c4 => CV K d mX6_becomeV [(2, 59), (0, a1), (0, a5)] c4 (fun c6 => CI K d mX8_isAllSeenSo [(2, 0)] c6 (fun c8 r9 => (r9 = 0 → WI K (d + 1) mX8_can 28 [(2, 0), (0, a1), (0, a2), (0, a3), (0, a4), (0, (a5 + 1))] [] c8 Q) ∧ (¬ (r9 = 0) → ir r9 ∧ (a3 = 0 → WI K (d + 1) mX8_can 28 [(2, 0), (0, a1), (0, a2), (0, (a3 + 1)), (0, a5), (0, (a5 + 1))] [] c8 Q) ∧ (¬ (a3 = 0) → ir a3 ∧ WI K (d + 1) mX8_can 28 [(2, 0), (0, a1), (0, a2), (0, (a3 + 1)), (0, a4), (0, (a5 + 1))] [] c8 Q))))))) : WI K (d + 1) mX8_can 28 [(2, 0), (0, a1), (0, a2), (0, a3), (0, a4), (0, a5)] [] c Q := by
  refine R_iload (pc' := 30) dX8_can_28 rfl rfl ?_
  refine R_bipush (pc' := 32) dX8_can_30 (by decide) rfl ?_
  have hs2 := h.1
  have h := h.2
  refine R_icmp_gt (tgt := 88) (pc' := 35) dX8_can_32 (by decide) hs2 (ir_l (by decide) (by decide)) rfl (fun hc1 => ?_) (fun hc1 => ?_)
  · have h := h.1 hc1
    refine R_iload_n (pc' := 89) dX8_can_88 rfl rfl ?_
    by_cases hc3 : a2 = 0
    · have h := h.1 hc3
      refine R_neS_if (tgt := 96) (pc' := 92) dX8_can_89 (by decide) hc3 rfl ?_
      refine R_iload_n (pc' := 93) dX8_can_92 rfl rfl ?_
      refine R_goto (tgt := 98) dX8_can_93 (by decide) ?_
      exact Q_iret dX8_can_98 rfl h
    · have h := h.2 hc3
      refine R_neD_if (tgt := 96) (pc' := 92) dX8_can_89 (by decide) hc3 h.1 rfl ?_
      have h := h.2
      refine R_iload (pc' := 98) dX8_can_96 rfl rfl ?_
      exact Q_iret dX8_can_98 rfl h
  · have h := h.2 hc1
    refine R_aload_n (pc' := 36) dX8_can_35 rfl i0.1 rfl ?_
    refine Q_getfr (v := 59) (J := 3) (pc' := 39) rfl dX8_can_36 l_RX8_57 i0 fd8_3.1 fd8_3.2.1 fd8_3.2.2.1 fd8_3.2.2.2 f0_3 rfl ?_
    refine R_aload_n (pc' := 40) dX8_can_39 rfl i0.1 rfl ?_
    refine Q_getfr (v := 11) (J := 0) (pc' := 43) rfl dX8_can_40 l_RX8_47 i0 fd8_0.1 fd8_0.2.1 fd8_0.2.2.1 fd8_0.2.2.2 f0_0 rfl ?_
    refine Q_getfNr (v := 24) (J := 0) (pc' := 46) rfl dX8_can_43 l_RX8_75 i11 fd1_0.1 fd1_0.2.1 fd1_0.2.2.1 fd1_0.2.2.2 f11_0 rfl ?_
    refine Q_callVV (vs := [(2, 24)]) (st := []) (pc' := 49) dX8_can_46 l_RX8_196 i59 (by decide) rfl rfl (Nat.le_of_ble_eq_true rfl) rfl (Nat.zero_le _) (Nat.zero_le _) rfl ?_
    refine CV.mono h (fun c4 h => ?_)
    refine R_aload_n (pc' := 50) dX8_can_49 rfl i0.1 rfl ?_
    refine Q_getfr (v := 59) (J := 3) (pc' := 53) rfl dX8_can_50 l_RX8_57 i0 fd8_3.1 fd8_3.2.1 fd8_3.2.2.1 fd8_3.2.2.2 f0_3 rfl ?_
    refine R_iload_n (pc' := 54) dX8_can_53 rfl rfl ?_
    refine R_iload (pc' := 56) dX8_can_54 rfl rfl ?_
    refine Q_callVV (vs := [(0, a1), (0, a5)]) (st := []) (pc' := 59) dX8_can_56 l_RX8_231 i59 (by decide) rfl rfl (Nat.le_of_ble_eq_true rfl) rfl (Nat.zero_le _) (Nat.zero_le _) rfl ?_
    refine CV.mono h (fun c6 h => ?_)
    refine R_aload_n (pc' := 60) dX8_can_59 rfl i0.1 rfl ?_
    refine Q_callVI (vs := []) (st := []) (pc' := 63) dX8_can_60 l_RX8_227 i0 (by decide) rfl rfl (Nat.le_of_ble_eq_true rfl) rfl (Nat.zero_le _) (Nat.zero_le _) rfl ?_
    refine CI.mono h (fun c8 r9 h => ?_)
    by_cases hc10 : r9 = 0
    · have h := h.1 hc10
      refine R_eqS_if (tgt := 82) (pc' := 66) dX8_can_63 (by decide) hc10 rfl ?_
      refine R_iinc (L' := [_, _, _, _, _, _]) (pc' := 85) dX8_can_82 rfl (by decide) rfl rfl rfl ?_
      refine R_goto (tgt := 28) dX8_can_85 (by decide) ?_
      exact WP_wk (wk_e (wk_e (wk_e (wk_e (wk_e (wk_e wk_n)))))) h
    · have h := h.2 hc10
      refine R_eqD_if (tgt := 82) (pc' := 66) dX8_can_63 (by decide) hc10 h.1 rfl ?_
      have h := h.2
      refine R_iload_n (pc' := 67) dX8_can_66 rfl rfl ?_
      by_cases hc11 : a3 = 0
      · have h := h.1 hc11
        refine R_neS_if (tgt := 75) (pc' := 70) dX8_can_67 (by decide) hc11 rfl ?_
        refine R_iload (pc' := 72) dX8_can_70 rfl rfl ?_
        refine R_goto (tgt := 77) dX8_can_72 (by decide) ?_
        refine R_istore (L' := [_, _, _, _, _, _]) (pc' := 79) dX8_can_77 (by decide) rfl rfl rfl ?_
        refine R_iinc (L' := [_, _, _, _, _, _]) (pc' := 82) dX8_can_79 rfl (by decide) rfl rfl rfl ?_
        refine R_iinc (L' := [_, _, _, _, _, _]) (pc' := 85) dX8_can_82 rfl (by decide) rfl rfl rfl ?_
        refine R_goto (tgt := 28) dX8_can_85 (by decide) ?_
        exact WP_wk (wk_e (wk_e (wk_e (wk_e (wk_e (wk_e wk_n)))))) h
      · have h := h.2 hc11
        refine R_neD_if (tgt := 75) (pc' := 70) dX8_can_67 (by decide) hc11 h.1 rfl ?_
        have h := h.2
        refine R_iload (pc' := 77) dX8_can_75 rfl rfl ?_
        refine R_istore (L' := [_, _, _, _, _, _]) (pc' := 79) dX8_can_77 (by decide) rfl rfl rfl ?_
        refine R_iinc (L' := [_, _, _, _, _, _]) (pc' := 82) dX8_can_79 rfl (by decide) rfl rfl rfl ?_
        refine R_iinc (L' := [_, _, _, _, _, _]) (pc' := 85) dX8_can_82 rfl (by decide) rfl rfl rfl ?_
        refine R_goto (tgt := 28) dX8_can_85 (by decide) ?_
        exact WP_wk (wk_e (wk_e (wk_e (wk_e (wk_e (wk_e wk_n)))))) h
theorem e_X8_can {K : SK} {d : Nat} {c : ct} {Q : ct → Int → Prop} (a1 : Int) (a2 : Int) (h : WI K (d + 1) mX8_can 0 [(2, 0), (0, a1), (0, a2), (9, 0), (9, 0), (9, 0)] [] c Q) : CI K (d + 1) mX8_can [(2, 0), (0, a1), (0, a2)] c Q := CM_ofS (by decide) (Nat.le_of_ble_eq_true rfl) _ rfl h
set_option maxRecDepth 100000 in
theorem s_X8_isAllSeenSo_0 {K : SK} {d : Nat} {c : ct} {Q : ct → Int → Prop}  (h : CI K d mX5_greatestThird [(2, 12)] c (fun c1 r2 => WI K (d + 1) mX8_isAllSeenSo 13 [(2, 0), (0, r2), (0, 0)] [] c1 Q)) : WI K (d + 1) mX8_isAllSeenSo 0 [(2, 0), (9, 0), (9, 0)] [] c Q := by
  refine R_aload_n (pc' := 1) dX8_isAllSeenSo_0 rfl i0.1 rfl ?_
  refine Q_getfr (v := 11) (J := 0) (pc' := 4) rfl dX8_isAllSeenSo_1 l_RX8_47 i0 fd8_0.1 fd8_0.2.1 fd8_0.2.2.1 fd8_0.2.2.2 f0_0 rfl ?_
  refine Q_getfNr (v := 12) (J := 1) (pc' := 7) rfl dX8_isAllSeenSo_4 l_RX8_215 i11 fd1_1.1 fd1_1.2.1 fd1_1.2.2.1 fd1_1.2.2.2 f11_1 rfl ?_
  refine Q_callVI (vs := []) (st := []) (pc' := 10) dX8_isAllSeenSo_7 l_RX8_234 i12 (by decide) rfl rfl (Nat.le_of_ble_eq_true rfl) rfl (Nat.zero_le _) (Nat.zero_le _) rfl ?_
  refine CI.mono h (fun c1 r2 h => ?_)
  refine R_istore_n (L' := [_, _, _]) (pc' := 11) dX8_isAllSeenSo_10 (by decide) rfl rfl rfl ?_
  refine R_iconst (pc' := 12) dX8_isAllSeenSo_11 rfl ?_
  refine R_istore_n (L' := [_, _, _]) (pc' := 13) dX8_isAllSeenSo_12 (by decide) rfl rfl rfl ?_
  exact WP_wk (wk_e (wk_e (wk_e wk_n))) h
set_option maxRecDepth 100000 in
theorem s_X8_isAllSeenSo_13 {K : SK} {d : Nat} {c : ct} {Q : ct → Int → Prop} (a1 : Int) (a2 : Int) (h : (ir a2 ∧ ir a1) ∧ (a1 < a2 → Q c 1) ∧ (¬ (a1 < a2) → CI K d mX8_isOneSeenOtherwise [(2, 0), (0, a2)] c (fun c3 r4 => (r4 = 0 → CV K d mX6_yearsGo [(2, 59), (0, 1)] c3 (fun c6 => WI K (d + 1) mX8_isAllSeenSo 13 [(2, 0), (0, a1), (0, (a2 + 1))] [] c6 Q)) ∧ (¬ (r4 = 0) → ir r4 ∧ Q c3 0)))) : WI K (d + 1) mX8_isAllSeenSo 13 [(2, 0), (0, a1), (0, a2)] [] c Q := by
  refine R_iload_n (pc' := 14) dX8_isAllSeenSo_13 rfl rfl ?_
  refine R_iload_n (pc' := 15) dX8_isAllSeenSo_14 rfl rfl ?_
  have hs2 := h.1
  have h := h.2
  refine R_icmp_gt (tgt := 42) (pc' := 18) dX8_isAllSeenSo_15 (by decide) hs2.1 hs2.2 rfl (fun hc1 => ?_) (fun hc1 => ?_)
  · have h := h.1 hc1
    refine R_iconst (pc' := 43) dX8_isAllSeenSo_42 rfl ?_
    exact Q_zret dX8_isAllSeenSo_43 rfl (Or.inr rfl) h
  · have h := h.2 hc1
    refine R_aload_n (pc' := 19) dX8_isAllSeenSo_18 rfl i0.1 rfl ?_
    refine R_iload_n (pc' := 20) dX8_isAllSeenSo_19 rfl rfl ?_
    refine Q_callVI (vs := [(0, a2)]) (st := []) (pc' := 23) dX8_isAllSeenSo_20 l_RX8_237 i0 (by decide) rfl rfl (Nat.le_of_ble_eq_true rfl) rfl (Nat.zero_le _) (Nat.zero_le _) rfl ?_
    refine CI.mono h (fun c3 r4 h => ?_)
    by_cases hc5 : r4 = 0
    · have h := h.1 hc5
      refine R_eqS_if (tgt := 28) (pc' := 26) dX8_isAllSeenSo_23 (by decide) hc5 rfl ?_
      refine R_aload_n (pc' := 29) dX8_isAllSeenSo_28 rfl i0.1 rfl ?_
      refine Q_getfr (v := 59) (J := 3) (pc' := 32) rfl dX8_isAllSeenSo_29 l_RX8_57 i0 fd8_3.1 fd8_3.2.1 fd8_3.2.2.1 fd8_3.2.2.2 f0_3 rfl ?_
      refine R_iconst (pc' := 33) dX8_isAllSeenSo_32 rfl ?_
      refine Q_callVV (vs := [(0, 1)]) (st := []) (pc' := 36) dX8_isAllSeenSo_33 l_RX8_193 i59 (by decide) rfl rfl (Nat.le_of_ble_eq_true rfl) rfl (Nat.zero_le _) (Nat.zero_le _) rfl ?_
      refine CV.mono h (fun c6 h => ?_)
      refine R_iinc (L' := [_, _, _]) (pc' := 39) dX8_isAllSeenSo_36 rfl (by decide) rfl rfl rfl ?_
      refine R_goto (tgt := 13) dX8_isAllSeenSo_39 (by decide) ?_
      exact WP_wk (wk_e (wk_e (wk_e wk_n))) h
    · have h := h.2 hc5
      refine R_eqD_if (tgt := 28) (pc' := 26) dX8_isAllSeenSo_23 (by decide) hc5 h.1 rfl ?_
      have h := h.2
      refine R_iconst (pc' := 27) dX8_isAllSeenSo_26 rfl ?_
      exact Q_zret dX8_isAllSeenSo_27 rfl (Or.inl rfl) h
theorem e_X8_isAllSeenSo {K : SK} {d : Nat} {c : ct} {Q : ct → Int → Prop}  (h : WI K (d + 1) mX8_isAllSeenSo 0 [(2, 0), (9, 0), (9, 0)] [] c Q) : CI K (d + 1) mX8_isAllSeenSo [(2, 0)] c Q := CM_ofS (by decide) (Nat.le_of_ble_eq_true rfl) _ rfl h
set_option maxRecDepth 100000 in
theorem s_X8_isOneSeenOtherwise_0 {K : SK} {d : Nat} {c : ct} {Q : ct → Int → Prop} (a1 : Int) (h : WI K (d + 1) mX8_isOneSeenOtherwise 10 [(2, 0), (0, a1), (2, 12), (0, 0), (9, 0)] [] c Q) : WI K (d + 1) mX8_isOneSeenOtherwise 0 [(2, 0), (0, a1), (9, 0), (9, 0), (9, 0)] [] c Q := by
  refine R_aload_n (pc' := 1) dX8_isOneSeenOtherwise_0 rfl i0.1 rfl ?_
  refine Q_getfr (v := 11) (J := 0) (pc' := 4) rfl dX8_isOneSeenOtherwise_1 l_RX8_47 i0 fd8_0.1 fd8_0.2.1 fd8_0.2.2.1 fd8_0.2.2.2 f0_0 rfl ?_
  refine Q_getfNr (v := 12) (J := 1) (pc' := 7) rfl dX8_isOneSeenOtherwise_4 l_RX8_215 i11 fd1_1.1 fd1_1.2.1 fd1_1.2.2.1 fd1_1.2.2.2 f11_1 rfl ?_
  refine R_astore_n (L' := [_, _, _, _, _]) (pc' := 8) dX8_isOneSeenOtherwise_7 i12.1 (by decide) rfl rfl rfl ?_
  refine R_iconst (pc' := 9) dX8_isOneSeenOtherwise_8 rfl ?_
  refine R_istore_n (L' := [_, _, _, _, _]) (pc' := 10) dX8_isOneSeenOtherwise_9 (by decide) rfl rfl rfl ?_
  exact WP_wk (wk_e (wk_e (wk_e (wk_e (wk_u wk_n))))) h
set_option maxRecDepth 100000 in
theorem s_X8_isOneSeenOtherwise_10 {K : SK} {d : Nat} {c : ct} {Q : ct → Int → Prop} (a1 : Int) (a3 : Int) (h : (ir a3 ∧ ir (c 12 4)) ∧ ((c 12 4) ≤ a3 → Q c 0) ∧ (¬ ((c 12 4) ≤ a3) → ((0 ≤ a3 ∧ a3 < 5)) ∧ ((0 ≤ a3 ∧ a3 < 5)) ∧ ((c 15 a3) = a1 → CI K d mX8_isGuest [(2, 0), (0, (c 13 a3))] c (fun c6 r7 => (r7 = 0 → WI K (d + 1) mX8_isOneSeenOtherwise 10 [(2, 0), (0, a1), (2, 12), (0, (a3 + 1)), (9, 0)] [] c6 Q) ∧ (¬ (r7 = 0) → ir r7 ∧ ((0 ≤ (c 13 a3) ∧ (c 13 a3) < 6)) ∧ CI K d mX8_oneIf [(0, (c6 64 (c 13 a3)))] c6 (fun c10 r11 => ((0 ≤ a3 ∧ a3 < 5)) ∧ (r11 = (c10 14 a3) → WI K (d + 1) mX8_isOneSeenOtherwise 10 [(2, 0), (0, a1), (2, 12), (0, (a3 + 1)), (9, 0)] [] c10 Q) ∧ (¬ (r11 = (c10 14 a3)) → (ir r11 ∧ ir (c10 14 a3)) ∧ Q c10 1))))) ∧ (¬ ((c 15 a3) = a1) → (ir (c 15 a3) ∧ ir a1) ∧ WI K (d + 1) mX8_isOneSeenOtherwise 10 [(2, 0), (0, a1), (2, 12), (0, (a3 + 1)), (9, 0)] [] c Q))) : WI K (d + 1) mX8_isOneSeenOtherwise 10 [(2, 0), (0, a1), (2, 12), (0, a3), (9, 0)] [] c Q := by
  refine R_iload_n (pc' := 11) dX8_isOneSeenOtherwise_10 rfl rfl ?_
  refine R_aload_n (pc' := 12) dX8_isOneSeenOtherwise_11 rfl i12.1 rfl ?_
  refine Q_getfNi (J := 4) (pc' := 15) rfl dX8_isOneSeenOtherwise_12 l_RX8_240 i12 fd5_4.1 fd5_4.2.1 fd5_4.2.2.1 rfl ?_
  have hs2 := h.1
  have h := h.2
  refine R_icmp_ge (tgt := 75) (pc' := 18) dX8_isOneSeenOtherwise_15 (by decide) hs2.1 hs2.2 rfl (fun hc1 => ?_) (fun hc1 => ?_)
  · have h := h.1 hc1
    refine R_iconst (pc' := 76) dX8_isOneSeenOtherwise_75 rfl ?_
    exact Q_zret dX8_isOneSeenOtherwise_76 rfl (Or.inl rfl) h
  · have h := h.2 hc1
    refine R_aload_n (pc' := 19) dX8_isOneSeenOtherwise_18 rfl i12.1 rfl ?_
    refine Q_getfNr (v := 13) (J := 0) (pc' := 22) rfl dX8_isOneSeenOtherwise_19 l_RX8_241 i12 fd5_0.1 fd5_0.2.1 fd5_0.2.2.1 fd5_0.2.2.2 f12_0 rfl ?_
    refine R_iload_n (pc' := 23) dX8_isOneSeenOtherwise_22 rfl rfl ?_
    have hs3 := h.1
    have h := h.2
    refine Q_iaload (N := 5) (pc' := 24) rfl dX8_isOneSeenOtherwise_23 i13 (by decide) hs3 rfl ?_
    refine R_istore (L' := [_, _, _, _, _]) (pc' := 26) dX8_isOneSeenOtherwise_24 (by decide) rfl rfl rfl ?_
    refine R_aload_n (pc' := 27) dX8_isOneSeenOtherwise_26 rfl i12.1 rfl ?_
    refine Q_getfNr (v := 15) (J := 2) (pc' := 30) rfl dX8_isOneSeenOtherwise_27 l_RX8_244 i12 fd5_2.1 fd5_2.2.1 fd5_2.2.2.1 fd5_2.2.2.2 f12_2 rfl ?_
    refine R_iload_n (pc' := 31) dX8_isOneSeenOtherwise_30 rfl rfl ?_
    have hs4 := h.1
    have h := h.2
    refine Q_iaload (N := 5) (pc' := 32) rfl dX8_isOneSeenOtherwise_31 i15 (by decide) hs4 rfl ?_
    refine R_iload_n (pc' := 33) dX8_isOneSeenOtherwise_32 rfl rfl ?_
    by_cases hc5 : (c 15 a3) = a1
    · have h := h.1 hc5
      refine R_neS_ic (tgt := 69) (pc' := 36) dX8_isOneSeenOtherwise_33 (by decide) hc5 rfl ?_
      refine R_aload_n (pc' := 37) dX8_isOneSeenOtherwise_36 rfl i0.1 rfl ?_
      refine R_iload (pc' := 39) dX8_isOneSeenOtherwise_37 rfl rfl ?_
      refine Q_callVI (vs := [(0, (c 13 a3))]) (st := []) (pc' := 42) dX8_isOneSeenOtherwise_39 l_RX8_86 i0 (by decide) rfl rfl (Nat.le_of_ble_eq_true rfl) rfl (Nat.zero_le _) (Nat.zero_le _) rfl ?_
      refine CI.mono h (fun c6 r7 h => ?_)
      by_cases hc8 : r7 = 0
      · have h := h.1 hc8
        refine R_eqS_if (tgt := 69) (pc' := 45) dX8_isOneSeenOtherwise_42 (by decide) hc8 rfl ?_
        refine R_iinc (L' := [_, _, _, _, _]) (pc' := 72) dX8_isOneSeenOtherwise_69 rfl (by decide) rfl rfl rfl ?_
        refine R_goto (tgt := 10) dX8_isOneSeenOtherwise_72 (by decide) ?_
        exact WP_wk (wk_e (wk_e (wk_e (wk_e (wk_u wk_n))))) h
      · have h := h.2 hc8
        refine R_eqD_if (tgt := 69) (pc' := 45) dX8_isOneSeenOtherwise_42 (by decide) hc8 h.1 rfl ?_
        have h := h.2
        refine R_aload_n (pc' := 46) dX8_isOneSeenOtherwise_45 rfl i0.1 rfl ?_
        refine Q_getfr (v := 59) (J := 3) (pc' := 49) rfl dX8_isOneSeenOtherwise_46 l_RX8_57 i0 fd8_3.1 fd8_3.2.1 fd8_3.2.2.1 fd8_3.2.2.2 f0_3 rfl ?_
        refine Q_getfNr (v := 64) (J := 4) (pc' := 52) rfl dX8_isOneSeenOtherwise_49 l_RX8_99 i59 fd6_4.1 fd6_4.2.1 fd6_4.2.2.1 fd6_4.2.2.2 f59_4 rfl ?_
        refine R_iload (pc' := 54) dX8_isOneSeenOtherwise_52 rfl rfl ?_
        have hs9 := h.1
        have h := h.2
        refine Q_zaload (N := 6) (pc' := 55) rfl dX8_isOneSeenOtherwise_54 i64 (by decide) hs9 rfl ?_
        refine Q_callSI (vs := [(0, (c6 64 (c 13 a3)))]) (st := []) (pc' := 58) dX8_isOneSeenOtherwise_55 l_RX8_103 rfl (Nat.le_of_ble_eq_true rfl) rfl (Nat.zero_le _) (Nat.zero_le _) rfl ?_
        refine CI.mono h (fun c10 r11 h => ?_)
        refine R_aload_n (pc' := 59) dX8_isOneSeenOtherwise_58 rfl i12.1 rfl ?_
        refine Q_getfNr (v := 14) (J := 1) (pc' := 62) rfl dX8_isOneSeenOtherwise_59 l_RX8_247 i12 fd5_1.1 fd5_1.2.1 fd5_1.2.2.1 fd5_1.2.2.2 f12_1 rfl ?_
        refine R_iload_n (pc' := 63) dX8_isOneSeenOtherwise_62 rfl rfl ?_
        have hs12 := h.1
        have h := h.2
        refine Q_iaload (N := 5) (pc' := 64) rfl dX8_isOneSeenOtherwise_63 i14 (by decide) hs12 rfl ?_
        by_cases hc13 : r11 = (c10 14 a3)
        · have h := h.1 hc13
          refine R_eqS_ic (tgt := 69) (pc' := 67) dX8_isOneSeenOtherwise_64 (by decide) hc13 rfl ?_
          refine R_iinc (L' := [_, _, _, _, _]) (pc' := 72) dX8_isOneSeenOtherwise_69 rfl (by decide) rfl rfl rfl ?_
          refine R_goto (tgt := 10) dX8_isOneSeenOtherwise_72 (by decide) ?_
          exact WP_wk (wk_e (wk_e (wk_e (wk_e (wk_u wk_n))))) h
        · have h := h.2 hc13
          refine R_eqD_ic (tgt := 69) (pc' := 67) dX8_isOneSeenOtherwise_64 (by decide) hc13 h.1 rfl ?_
          have h := h.2
          refine R_iconst (pc' := 68) dX8_isOneSeenOtherwise_67 rfl ?_
          exact Q_zret dX8_isOneSeenOtherwise_68 rfl (Or.inr rfl) h
    · have h := h.2 hc5
      refine R_neD_ic (tgt := 69) (pc' := 36) dX8_isOneSeenOtherwise_33 (by decide) hc5 h.1 rfl ?_
      have h := h.2
      refine R_iinc (L' := [_, _, _, _, _]) (pc' := 72) dX8_isOneSeenOtherwise_69 rfl (by decide) rfl rfl rfl ?_
      refine R_goto (tgt := 10) dX8_isOneSeenOtherwise_72 (by decide) ?_
      exact WP_wk (wk_e (wk_e (wk_e (wk_e (wk_u wk_n))))) h
theorem e_X8_isOneSeenOtherwise {K : SK} {d : Nat} {c : ct} {Q : ct → Int → Prop} (a1 : Int) (h : WI K (d + 1) mX8_isOneSeenOtherwise 0 [(2, 0), (0, a1), (9, 0), (9, 0), (9, 0)] [] c Q) : CI K (d + 1) mX8_isOneSeenOtherwise [(2, 0), (0, a1)] c Q := CM_ofS (by decide) (Nat.le_of_ble_eq_true rfl) _ rfl h
set_option maxRecDepth 100000 in
theorem s_X8_odds_0 {K : SK} {d : Nat} {c : ct} {Q : ct → Int → Prop} (a1 : Int) (a2 : Int) (h : (ir a1) ∧ (a1 < 0 → Q c (-9223372036854775808)) ∧ (¬ (a1 < 0) → (ir a1) ∧ (a1 ≤ 999 → WLg K (d + 1) mX8_odds 20 [(2, 0), (0, a1), (0, a2), (0, 0), (0, 0)] [] c Q) ∧ (¬ (a1 ≤ 999) → Q c (-9223372036854775808)))) : WLg K (d + 1) mX8_odds 0 [(2, 0), (0, a1), (0, a2), (9, 0), (9, 0)] [] c Q := by
  refine R_iload_n (pc' := 1) dX8_odds_0 rfl rfl ?_
  have hs2 := h.1
  have h := h.2
  refine R_if_lt (tgt := 11) (pc' := 4) dX8_odds_1 (by decide) hs2  rfl (fun hc1 => ?_) (fun hc1 => ?_)
  · have h := h.1 hc1
    refine R_ldc2 (x := (-9223372036854775808)) (pc' := 14) dX8_odds_11 l_RX8_250 (by decide) rfl ?_
    exact Q_lret dX8_odds_14 rfl h
  · have h := h.2 hc1
    refine R_iload_n (pc' := 5) dX8_odds_4 rfl rfl ?_
    refine R_sipush (pc' := 8) dX8_odds_5 (by decide) rfl ?_
    have hs4 := h.1
    have h := h.2
    refine R_icmp_le (tgt := 15) (pc' := 11) dX8_odds_8 (by decide) hs4 (ir_l (by decide) (by decide)) rfl (fun hc3 => ?_) (fun hc3 => ?_)
    · have h := h.1 hc3
      refine R_iconst (pc' := 16) dX8_odds_15 rfl ?_
      refine R_istore_n (L' := [_, _, _, _, _]) (pc' := 17) dX8_odds_16 (by decide) rfl rfl rfl ?_
      refine R_iconst (pc' := 18) dX8_odds_17 rfl ?_
      refine R_istore (L' := [_, _, _, _, _]) (pc' := 20) dX8_odds_18 (by decide) rfl rfl rfl ?_
      exact WP_wk (wk_e (wk_e (wk_e (wk_e (wk_e wk_n))))) h
    · have h := h.2 hc3
      refine R_ldc2 (x := (-9223372036854775808)) (pc' := 14) dX8_odds_11 l_RX8_250 (by decide) rfl ?_
      exact Q_lret dX8_odds_14 rfl h
set_option maxRecDepth 100000 in
theorem s_X8_odds_20 {K : SK} {d : Nat} {c : ct} {Q : ct → Int → Prop} (a1 : Int) (a2 : Int) (a3 : Int) (a4 : Int) (h : (ir a4 ∧ ir (c 24 10)) ∧ ((c 24 10) ≤ a4 → CL K d mX8_lowest [(0, a3), (0, (c 24 10)), (0, a2)] c (fun c3 r4 => Q c3 r4)) ∧ (¬ ((c 24 10) ≤ a4) → CV K d mX6_copyFrom [(2, 59), (2, 24)] c (fun c5 => ((0 ≤ a4 ∧ a4 < 6)) ∧ ∀ c7 : ct, c7 = up2 c5 65 a4 1 → CI K d mX6_fondOfAll [(2, 59)] c7 (fun c9 r10 => (ir r10 ∧ ir a1) ∧ (r10 < a1 → WLg K (d + 1) mX8_odds 20 [(2, 0), (0, a1), (0, a2), (0, a3), (0, (a4 + 1))] [] c9 Q) ∧ (¬ (r10 < a1) → WLg K (d + 1) mX8_odds 20 [(2, 0), (0, a1), (0, a2), (0, (a3 + 1)), (0, (a4 + 1))] [] c9 Q))))) : WLg K (d + 1) mX8_odds 20 [(2, 0), (0, a1), (0, a2), (0, a3), (0, a4)] [] c Q := by
  refine R_iload (pc' := 22) dX8_odds_20 rfl rfl ?_
  refine R_aload_n (pc' := 23) dX8_odds_22 rfl i0.1 rfl ?_
  refine Q_getfr (v := 11) (J := 0) (pc' := 26) rfl dX8_odds_23 l_RX8_47 i0 fd8_0.1 fd8_0.2.1 fd8_0.2.2.1 fd8_0.2.2.2 f0_0 rfl ?_
  refine Q_getfNr (v := 24) (J := 0) (pc' := 29) rfl dX8_odds_26 l_RX8_75 i11 fd1_0.1 fd1_0.2.1 fd1_0.2.2.1 fd1_0.2.2.2 f11_0 rfl ?_
  refine Q_getfNi (J := 10) (pc' := 32) rfl dX8_odds_29 l_RX8_78 i24 fd6_10.1 fd6_10.2.1 fd6_10.2.2.1 rfl ?_
  have hs2 := h.1
  have h := h.2
  refine R_icmp_ge (tgt := 80) (pc' := 35) dX8_odds_32 (by decide) hs2.1 hs2.2 rfl (fun hc1 => ?_) (fun hc1 => ?_)
  · have h := h.1 hc1
    refine R_iload_n (pc' := 81) dX8_odds_80 rfl rfl ?_
    refine R_aload_n (pc' := 82) dX8_odds_81 rfl i0.1 rfl ?_
    refine Q_getfr (v := 11) (J := 0) (pc' := 85) rfl dX8_odds_82 l_RX8_47 i0 fd8_0.1 fd8_0.2.1 fd8_0.2.2.1 fd8_0.2.2.2 f0_0 rfl ?_
    refine Q_getfNr (v := 24) (J := 0) (pc' := 88) rfl dX8_odds_85 l_RX8_75 i11 fd1_0.1 fd1_0.2.1 fd1_0.2.2.1 fd1_0.2.2.2 f11_0 rfl ?_
    refine Q_getfNi (J := 10) (pc' := 91) rfl dX8_odds_88 l_RX8_78 i24 fd6_10.1 fd6_10.2.1 fd6_10.2.2.1 rfl ?_
    refine R_iload_n (pc' := 92) dX8_odds_91 rfl rfl ?_
    refine Q_callSL (vs := [(0, a3), (0, (c 24 10)), (0, a2)]) (st := []) (pc' := 95) dX8_odds_92 l_RX8_252 rfl (Nat.le_of_ble_eq_true rfl) rfl (Nat.zero_le _) (Nat.zero_le _) rfl ?_
    refine CL.mono h (fun c3 r4 h => ?_)
    exact Q_lret dX8_odds_95 rfl h
  · have h := h.2 hc1
    refine R_aload_n (pc' := 36) dX8_odds_35 rfl i0.1 rfl ?_
    refine Q_getfr (v := 59) (J := 3) (pc' := 39) rfl dX8_odds_36 l_RX8_57 i0 fd8_3.1 fd8_3.2.1 fd8_3.2.2.1 fd8_3.2.2.2 f0_3 rfl ?_
    refine R_aload_n (pc' := 40) dX8_odds_39 rfl i0.1 rfl ?_
    refine Q_getfr (v := 11) (J := 0) (pc' := 43) rfl dX8_odds_40 l_RX8_47 i0 fd8_0.1 fd8_0.2.1 fd8_0.2.2.1 fd8_0.2.2.2 f0_0 rfl ?_
    refine Q_getfNr (v := 24) (J := 0) (pc' := 46) rfl dX8_odds_43 l_RX8_75 i11 fd1_0.1 fd1_0.2.1 fd1_0.2.2.1 fd1_0.2.2.2 f11_0 rfl ?_
    refine Q_callVV (vs := [(2, 24)]) (st := []) (pc' := 49) dX8_odds_46 l_RX8_196 i59 (by decide) rfl rfl (Nat.le_of_ble_eq_true rfl) rfl (Nat.zero_le _) (Nat.zero_le _) rfl ?_
    refine CV.mono h (fun c5 h => ?_)
    refine R_aload_n (pc' := 50) dX8_odds_49 rfl i0.1 rfl ?_
    refine Q_getfr (v := 59) (J := 3) (pc' := 53) rfl dX8_odds_50 l_RX8_57 i0 fd8_3.1 fd8_3.2.1 fd8_3.2.2.1 fd8_3.2.2.2 f0_3 rfl ?_
    refine Q_getfNr (v := 65) (J := 5) (pc' := 56) rfl dX8_odds_53 l_RX8_110 i59 fd6_5.1 fd6_5.2.1 fd6_5.2.2.1 fd6_5.2.2.2 f59_5 rfl ?_
    refine R_iload (pc' := 58) dX8_odds_56 rfl rfl ?_
    refine R_iconst (pc' := 59) dX8_odds_58 rfl ?_
    have hs8 := h.1
    have h := h.2
    refine Q_zastore (N := 6) (pc' := 60) rfl dX8_odds_59 i65 (by decide) hs8 (Or.inr rfl) rfl (fun c7 hc7 => ?_)
    have h := h c7 hc7
    refine R_aload_n (pc' := 61) dX8_odds_60 rfl i0.1 rfl ?_
    refine Q_getfr (v := 59) (J := 3) (pc' := 64) rfl dX8_odds_61 l_RX8_57 i0 fd8_3.1 fd8_3.2.1 fd8_3.2.2.1 fd8_3.2.2.2 f0_3 rfl ?_
    refine Q_callVI (vs := []) (st := []) (pc' := 67) dX8_odds_64 l_RX8_175 i59 (by decide) rfl rfl (Nat.le_of_ble_eq_true rfl) rfl (Nat.zero_le _) (Nat.zero_le _) rfl ?_
    refine CI.mono h (fun c9 r10 h => ?_)
    refine R_iload_n (pc' := 68) dX8_odds_67 rfl rfl ?_
    have hs12 := h.1
    have h := h.2
    refine R_icmp_lt (tgt := 74) (pc' := 71) dX8_odds_68 (by decide) hs12.1 hs12.2 rfl (fun hc11 => ?_) (fun hc11 => ?_)
    · have h := h.1 hc11
      refine R_iinc (L' := [_, _, _, _, _]) (pc' := 77) dX8_odds_74 rfl (by decide) rfl rfl rfl ?_
      refine R_goto (tgt := 20) dX8_odds_77 (by decide) ?_
      exact WP_wk (wk_e (wk_e (wk_e (wk_e (wk_e wk_n))))) h
    · have h := h.2 hc11
      refine R_iinc (L' := [_, _, _, _, _]) (pc' := 74) dX8_odds_71 rfl (by decide) rfl rfl rfl ?_
      refine R_iinc (L' := [_, _, _, _, _]) (pc' := 77) dX8_odds_74 rfl (by decide) rfl rfl rfl ?_
      refine R_goto (tgt := 20) dX8_odds_77 (by decide) ?_
      exact WP_wk (wk_e (wk_e (wk_e (wk_e (wk_e wk_n))))) h
theorem e_X8_odds {K : SK} {d : Nat} {c : ct} {Q : ct → Int → Prop} (a1 : Int) (a2 : Int) (h : WLg K (d + 1) mX8_odds 0 [(2, 0), (0, a1), (0, a2), (9, 0), (9, 0)] [] c Q) : CL K (d + 1) mX8_odds [(2, 0), (0, a1), (0, a2)] c Q := CM_ofS (by decide) (Nat.le_of_ble_eq_true rfl) _ rfl h
set_option maxRecDepth 100000 in
theorem s_X8_mean_0 {K : SK} {d : Nat} {c : ct} {Q : ct → Int → Prop} (a1 : Int) (h : CI K d mX6_fondOfAll [(2, 24)] c (fun c1 r2 => CL K d mX8_lowest [(0, r2), (0, (c1 24 10)), (0, a1)] c1 (fun c3 r4 => Q c3 r4))) : WLg K (d + 1) mX8_mean 0 [(2, 0), (0, a1)] [] c Q := by
  refine R_aload_n (pc' := 1) dX8_mean_0 rfl i0.1 rfl ?_
  refine Q_getfr (v := 11) (J := 0) (pc' := 4) rfl dX8_mean_1 l_RX8_47 i0 fd8_0.1 fd8_0.2.1 fd8_0.2.2.1 fd8_0.2.2.2 f0_0 rfl ?_
  refine Q_getfNr (v := 24) (J := 0) (pc' := 7) rfl dX8_mean_4 l_RX8_75 i11 fd1_0.1 fd1_0.2.1 fd1_0.2.2.1 fd1_0.2.2.2 f11_0 rfl ?_
  refine Q_callVI (vs := []) (st := []) (pc' := 10) dX8_mean_7 l_RX8_175 i24 (by decide) rfl rfl (Nat.le_of_ble_eq_true rfl) rfl (Nat.zero_le _) (Nat.zero_le _) rfl ?_
  refine CI.mono h (fun c1 r2 h => ?_)
  refine R_aload_n (pc' := 11) dX8_mean_10 rfl i0.1 rfl ?_
  refine Q_getfr (v := 11) (J := 0) (pc' := 14) rfl dX8_mean_11 l_RX8_47 i0 fd8_0.1 fd8_0.2.1 fd8_0.2.2.1 fd8_0.2.2.2 f0_0 rfl ?_
  refine Q_getfNr (v := 24) (J := 0) (pc' := 17) rfl dX8_mean_14 l_RX8_75 i11 fd1_0.1 fd1_0.2.1 fd1_0.2.2.1 fd1_0.2.2.2 f11_0 rfl ?_
  refine Q_getfNi (J := 10) (pc' := 20) rfl dX8_mean_17 l_RX8_78 i24 fd6_10.1 fd6_10.2.1 fd6_10.2.2.1 rfl ?_
  refine R_iload_n (pc' := 21) dX8_mean_20 rfl rfl ?_
  refine Q_callSL (vs := [(0, r2), (0, (c1 24 10)), (0, a1)]) (st := []) (pc' := 24) dX8_mean_21 l_RX8_252 rfl (Nat.le_of_ble_eq_true rfl) rfl (Nat.zero_le _) (Nat.zero_le _) rfl ?_
  refine CL.mono h (fun c3 r4 h => ?_)
  exact Q_lret dX8_mean_24 rfl h
theorem e_X8_mean {K : SK} {d : Nat} {c : ct} {Q : ct → Int → Prop} (a1 : Int) (h : WLg K (d + 1) mX8_mean 0 [(2, 0), (0, a1)] [] c Q) : CL K (d + 1) mX8_mean [(2, 0), (0, a1)] c Q := CM_ofS (by decide) (Nat.le_of_ble_eq_true rfl) _ rfl h
set_option maxRecDepth 100000 in
theorem s_X8_lowest_0 {K : SK} {d : Nat} {c : ct} {Q : ct → Int → Prop} (a0 : Int) (a1 : Int) (a2 : Int) (h : (ir a1) ∧ (a1 ≤ 0 → Q c (-9223372036854775808)) ∧ (¬ (a1 ≤ 0) → (ir a2) ∧ (a2 < 0 → Q c (-9223372036854775808)) ∧ (¬ (a2 < 0) → (ir a2) ∧ (a2 ≤ 1 → WLg K (d + 1) mX8_lowest 22 [(0, a0), (0, a1), (0, a2), (0, 1), (0, 2)] [] c Q) ∧ (¬ (a2 ≤ 1) → Q c (-9223372036854775808))))) : WLg K (d + 1) mX8_lowest 0 [(0, a0), (0, a1), (0, a2), (9, 0), (9, 0)] [] c Q := by
  refine R_iload_n (pc' := 1) dX8_lowest_0 rfl rfl ?_
  have hs2 := h.1
  have h := h.2
  refine R_if_le (tgt := 13) (pc' := 4) dX8_lowest_1 (by decide) hs2  rfl (fun hc1 => ?_) (fun hc1 => ?_)
  · have h := h.1 hc1
    refine R_ldc2 (x := (-9223372036854775808)) (pc' := 16) dX8_lowest_13 l_RX8_250 (by decide) rfl ?_
    exact Q_lret dX8_lowest_16 rfl h
  · have h := h.2 hc1
    refine R_iload_n (pc' := 5) dX8_lowest_4 rfl rfl ?_
    have hs4 := h.1
    have h := h.2
    refine R_if_lt (tgt := 13) (pc' := 8) dX8_lowest_5 (by decide) hs4  rfl (fun hc3 => ?_) (fun hc3 => ?_)
    · have h := h.1 hc3
      refine R_ldc2 (x := (-9223372036854775808)) (pc' := 16) dX8_lowest_13 l_RX8_250 (by decide) rfl ?_
      exact Q_lret dX8_lowest_16 rfl h
    · have h := h.2 hc3
      refine R_iload_n (pc' := 9) dX8_lowest_8 rfl rfl ?_
      refine R_iconst (pc' := 10) dX8_lowest_9 rfl ?_
      have hs6 := h.1
      have h := h.2
      refine R_icmp_le (tgt := 17) (pc' := 13) dX8_lowest_10 (by decide) hs6 (ir_l (by decide) (by decide)) rfl (fun hc5 => ?_) (fun hc5 => ?_)
      · have h := h.1 hc5
        refine R_iconst (pc' := 18) dX8_lowest_17 rfl ?_
        refine R_istore_n (L' := [_, _, _, _, _]) (pc' := 19) dX8_lowest_18 (by decide) rfl rfl rfl ?_
        refine R_iconst (pc' := 20) dX8_lowest_19 rfl ?_
        refine R_istore (L' := [_, _, _, _, _]) (pc' := 22) dX8_lowest_20 (by decide) rfl rfl rfl ?_
        exact WP_wk (wk_e (wk_e (wk_e (wk_e (wk_e wk_n))))) h
      · have h := h.2 hc5
        refine R_ldc2 (x := (-9223372036854775808)) (pc' := 16) dX8_lowest_13 l_RX8_250 (by decide) rfl ?_
        exact Q_lret dX8_lowest_16 rfl h
set_option maxRecDepth 100000 in
theorem s_X8_lowest_22 {K : SK} {d : Nat} {c : ct} {Q : ct → Int → Prop} (a0 : Int) (a1 : Int) (a2 : Int) (a3 : Int) (a4 : Int) (h : (ir a4 ∧ ir a1) ∧ (a1 < a4 → (a2 = 0 → (0 < a3 ∧ ir a0 ∧ ir a3) ∧ (ir (Int.tdiv a0 a3)) ∧ Q c (Int.tdiv a0 a3)) ∧ (¬ (a2 = 0) → ir a2 ∧ (0 < a3 ∧ ir a1 ∧ ir a3) ∧ (ir (Int.tdiv a1 a3)) ∧ Q c (Int.tdiv a1 a3))) ∧ (¬ (a1 < a4) → (0 < a4 ∧ ir a0 ∧ ir a4) ∧ ((Int.tmod a0 a4) = 0 → (0 < a4 ∧ ir a1 ∧ ir a4) ∧ ((Int.tmod a1 a4) = 0 → WLg K (d + 1) mX8_lowest 22 [(0, a0), (0, a1), (0, a2), (0, a4), (0, (a4 + 1))] [] c Q) ∧ (¬ ((Int.tmod a1 a4) = 0) → ir (Int.tmod a1 a4) ∧ WLg K (d + 1) mX8_lowest 22 [(0, a0), (0, a1), (0, a2), (0, a3), (0, (a4 + 1))] [] c Q)) ∧ (¬ ((Int.tmod a0 a4) = 0) → ir (Int.tmod a0 a4) ∧ WLg K (d + 1) mX8_lowest 22 [(0, a0), (0, a1), (0, a2), (0, a3), (0, (a4 + 1))] [] c Q))) : WLg K (d + 1) mX8_lowest 22 [(0, a0), (0, a1), (0, a2), (0, a3), (0, a4)] [] c Q := by
  refine R_iload (pc' := 24) dX8_lowest_22 rfl rfl ?_
  refine R_iload_n (pc' := 25) dX8_lowest_24 rfl rfl ?_
  have hs2 := h.1
  have h := h.2
  refine R_icmp_gt (tgt := 51) (pc' := 28) dX8_lowest_25 (by decide) hs2.1 hs2.2 rfl (fun hc1 => ?_) (fun hc1 => ?_)
  · have h := h.1 hc1
    refine R_iload_n (pc' := 52) dX8_lowest_51 rfl rfl ?_
    by_cases hc3 : a2 = 0
    · have h := h.1 hc3
      refine R_neS_if (tgt := 62) (pc' := 55) dX8_lowest_52 (by decide) hc3 rfl ?_
      refine R_iload_n (pc' := 56) dX8_lowest_55 rfl rfl ?_
      refine R_iload_n (pc' := 57) dX8_lowest_56 rfl rfl ?_
      have hs4 := h.1
      have h := h.2
      refine R_idiv (pc' := 58) dX8_lowest_57 hs4.1 hs4.2.1 hs4.2.2 rfl ?_
      have hs5 := h.1
      have h := h.2
      refine R_i2l (pc' := 59) dX8_lowest_58 hs5 rfl ?_
      refine R_goto (tgt := 66) dX8_lowest_59 (by decide) ?_
      exact Q_lret dX8_lowest_66 rfl h
    · have h := h.2 hc3
      refine R_neD_if (tgt := 62) (pc' := 55) dX8_lowest_52 (by decide) hc3 h.1 rfl ?_
      have h := h.2
      refine R_iload_n (pc' := 63) dX8_lowest_62 rfl rfl ?_
      refine R_iload_n (pc' := 64) dX8_lowest_63 rfl rfl ?_
      have hs6 := h.1
      have h := h.2
      refine R_idiv (pc' := 65) dX8_lowest_64 hs6.1 hs6.2.1 hs6.2.2 rfl ?_
      have hs7 := h.1
      have h := h.2
      refine R_i2l (pc' := 66) dX8_lowest_65 hs7 rfl ?_
      exact Q_lret dX8_lowest_66 rfl h
  · have h := h.2 hc1
    refine R_iload_n (pc' := 29) dX8_lowest_28 rfl rfl ?_
    refine R_iload (pc' := 31) dX8_lowest_29 rfl rfl ?_
    have hs8 := h.1
    have h := h.2
    refine R_irem (pc' := 32) dX8_lowest_31 hs8.1 hs8.2.1 hs8.2.2 rfl ?_
    by_cases hc9 : (Int.tmod a0 a4) = 0
    · have h := h.1 hc9
      refine R_neS_if (tgt := 45) (pc' := 35) dX8_lowest_32 (by decide) hc9 rfl ?_
      refine R_iload_n (pc' := 36) dX8_lowest_35 rfl rfl ?_
      refine R_iload (pc' := 38) dX8_lowest_36 rfl rfl ?_
      have hs10 := h.1
      have h := h.2
      refine R_irem (pc' := 39) dX8_lowest_38 hs10.1 hs10.2.1 hs10.2.2 rfl ?_
      by_cases hc11 : (Int.tmod a1 a4) = 0
      · have h := h.1 hc11
        refine R_neS_if (tgt := 45) (pc' := 42) dX8_lowest_39 (by decide) hc11 rfl ?_
        refine R_iload (pc' := 44) dX8_lowest_42 rfl rfl ?_
        refine R_istore_n (L' := [_, _, _, _, _]) (pc' := 45) dX8_lowest_44 (by decide) rfl rfl rfl ?_
        refine R_iinc (L' := [_, _, _, _, _]) (pc' := 48) dX8_lowest_45 rfl (by decide) rfl rfl rfl ?_
        refine R_goto (tgt := 22) dX8_lowest_48 (by decide) ?_
        exact WP_wk (wk_e (wk_e (wk_e (wk_e (wk_e wk_n))))) h
      · have h := h.2 hc11
        refine R_neD_if (tgt := 45) (pc' := 42) dX8_lowest_39 (by decide) hc11 h.1 rfl ?_
        have h := h.2
        refine R_iinc (L' := [_, _, _, _, _]) (pc' := 48) dX8_lowest_45 rfl (by decide) rfl rfl rfl ?_
        refine R_goto (tgt := 22) dX8_lowest_48 (by decide) ?_
        exact WP_wk (wk_e (wk_e (wk_e (wk_e (wk_e wk_n))))) h
    · have h := h.2 hc9
      refine R_neD_if (tgt := 45) (pc' := 35) dX8_lowest_32 (by decide) hc9 h.1 rfl ?_
      have h := h.2
      refine R_iinc (L' := [_, _, _, _, _]) (pc' := 48) dX8_lowest_45 rfl (by decide) rfl rfl rfl ?_
      refine R_goto (tgt := 22) dX8_lowest_48 (by decide) ?_
      exact WP_wk (wk_e (wk_e (wk_e (wk_e (wk_e wk_n))))) h
theorem e_X8_lowest {K : SK} {d : Nat} {c : ct} {Q : ct → Int → Prop} (a0 : Int) (a1 : Int) (a2 : Int) (h : WLg K (d + 1) mX8_lowest 0 [(0, a0), (0, a1), (0, a2), (9, 0), (9, 0)] [] c Q) : CL K (d + 1) mX8_lowest [(0, a0), (0, a1), (0, a2)] c Q := CM_ofS (by decide) (Nat.le_of_ble_eq_true rfl) _ rfl h
set_option maxRecDepth 100000 in
theorem s_X8_plan_0 {K : SK} {d : Nat} {c : ct} {Q : ct → Int → Prop} (a1 : Int) (a2 : Int) (h : (a1 = (-1) → CI K d mX5_empty [(2, 16)] c (fun c2 r3 => Q c2 r3)) ∧ (¬ (a1 = (-1)) → ir a1 ∧ (a1 = 0 → WI K (d + 1) mX8_plan 50 [(2, 0), (0, a1), (0, a2), (9, 0)] [] c Q) ∧ (¬ (a1 = 0) → ir a1 ∧ (a1 = 1 → CI K d mX8_isGuest [(2, 0), (0, a2)] c (fun c6 r7 => (r7 = 0 → (a1 = 3 → CI K d mX8_isSeat [(0, a2)] c6 (fun c10 r11 => (r11 = 0 → WI K (d + 1) mX8_plan 54 [(2, 0), (0, a1), (0, a2), (9, 0)] [] c10 Q) ∧ (¬ (r11 = 0) → ir r11 ∧ WI K (d + 1) mX8_plan 50 [(2, 0), (0, a1), (0, a2), (9, 0)] [] c10 Q))) ∧ (¬ (a1 = 3) → ir a1 ∧ WI K (d + 1) mX8_plan 54 [(2, 0), (0, a1), (0, a2), (9, 0)] [] c6 Q)) ∧ (¬ (r7 = 0) → ir r7 ∧ WI K (d + 1) mX8_plan 50 [(2, 0), (0, a1), (0, a2), (9, 0)] [] c6 Q))) ∧ (¬ (a1 = 1) → ir a1 ∧ (a1 = 2 → CI K d mX8_isGuest [(2, 0), (0, a2)] c (fun c14 r15 => (r15 = 0 → (a1 = 3 → CI K d mX8_isSeat [(0, a2)] c14 (fun c18 r19 => (r19 = 0 → WI K (d + 1) mX8_plan 54 [(2, 0), (0, a1), (0, a2), (9, 0)] [] c18 Q) ∧ (¬ (r19 = 0) → ir r19 ∧ WI K (d + 1) mX8_plan 50 [(2, 0), (0, a1), (0, a2), (9, 0)] [] c18 Q))) ∧ (¬ (a1 = 3) → ir a1 ∧ WI K (d + 1) mX8_plan 54 [(2, 0), (0, a1), (0, a2), (9, 0)] [] c14 Q)) ∧ (¬ (r15 = 0) → ir r15 ∧ WI K (d + 1) mX8_plan 50 [(2, 0), (0, a1), (0, a2), (9, 0)] [] c14 Q))) ∧ (¬ (a1 = 2) → ir a1 ∧ (a1 = 3 → CI K d mX8_isSeat [(0, a2)] c (fun c22 r23 => (r23 = 0 → WI K (d + 1) mX8_plan 54 [(2, 0), (0, a1), (0, a2), (9, 0)] [] c22 Q) ∧ (¬ (r23 = 0) → ir r23 ∧ WI K (d + 1) mX8_plan 50 [(2, 0), (0, a1), (0, a2), (9, 0)] [] c22 Q))) ∧ (¬ (a1 = 3) → ir a1 ∧ WI K (d + 1) mX8_plan 54 [(2, 0), (0, a1), (0, a2), (9, 0)] [] c Q)))))) : WI K (d + 1) mX8_plan 0 [(2, 0), (0, a1), (0, a2), (9, 0)] [] c Q := by
  refine R_iload_n (pc' := 1) dX8_plan_0 rfl rfl ?_
  refine R_iconst (pc' := 2) dX8_plan_1 rfl ?_
  by_cases hc1 : a1 = (-1)
  · have h := h.1 hc1
    refine R_neS_ic (tgt := 16) (pc' := 5) dX8_plan_2 (by decide) hc1 rfl ?_
    refine R_aload_n (pc' := 6) dX8_plan_5 rfl i0.1 rfl ?_
    refine Q_getfr (v := 11) (J := 0) (pc' := 9) rfl dX8_plan_6 l_RX8_47 i0 fd8_0.1 fd8_0.2.1 fd8_0.2.2.1 fd8_0.2.2.2 f0_0 rfl ?_
    refine Q_getfNr (v := 16) (J := 2) (pc' := 12) rfl dX8_plan_9 l_RX8_256 i11 fd1_2.1 fd1_2.2.1 fd1_2.2.2.1 fd1_2.2.2.2 f11_2 rfl ?_
    refine Q_callVI (vs := []) (st := []) (pc' := 15) dX8_plan_12 l_RX8_219 i16 (by decide) rfl rfl (Nat.le_of_ble_eq_true rfl) rfl (Nat.zero_le _) (Nat.zero_le _) rfl ?_
    refine CI.mono h (fun c2 r3 h => ?_)
    exact Q_iret dX8_plan_15 rfl h
  · have h := h.2 hc1
    refine R_neD_ic (tgt := 16) (pc' := 5) dX8_plan_2 (by decide) hc1 ⟨h.1, ir_l (by decide) (by decide)⟩ rfl ?_
    have h := h.2
    refine R_iload_n (pc' := 17) dX8_plan_16 rfl rfl ?_
    by_cases hc4 : a1 = 0
    · have h := h.1 hc4
      refine R_eqS_if (tgt := 50) (pc' := 20) dX8_plan_17 (by decide) hc4 rfl ?_
      exact WP_wk (wk_e (wk_e (wk_e (wk_u wk_n)))) h
    · have h := h.2 hc4
      refine R_eqD_if (tgt := 50) (pc' := 20) dX8_plan_17 (by decide) hc4 h.1 rfl ?_
      have h := h.2
      refine R_iload_n (pc' := 21) dX8_plan_20 rfl rfl ?_
      refine R_iconst (pc' := 22) dX8_plan_21 rfl ?_
      by_cases hc5 : a1 = 1
      · have h := h.1 hc5
        refine R_eqS_ic (tgt := 30) (pc' := 25) dX8_plan_22 (by decide) hc5 rfl ?_
        refine R_aload_n (pc' := 31) dX8_plan_30 rfl i0.1 rfl ?_
        refine R_iload_n (pc' := 32) dX8_plan_31 rfl rfl ?_
        refine Q_callVI (vs := [(0, a2)]) (st := []) (pc' := 35) dX8_plan_32 l_RX8_86 i0 (by decide) rfl rfl (Nat.le_of_ble_eq_true rfl) rfl (Nat.zero_le _) (Nat.zero_le _) rfl ?_
        refine CI.mono h (fun c6 r7 h => ?_)
        by_cases hc8 : r7 = 0
        · have h := h.1 hc8
          refine R_neS_if (tgt := 50) (pc' := 38) dX8_plan_35 (by decide) hc8 rfl ?_
          refine R_iload_n (pc' := 39) dX8_plan_38 rfl rfl ?_
          refine R_iconst (pc' := 40) dX8_plan_39 rfl ?_
          by_cases hc9 : a1 = 3
          · have h := h.1 hc9
            refine R_neS_ic (tgt := 54) (pc' := 43) dX8_plan_40 (by decide) hc9 rfl ?_
            refine R_iload_n (pc' := 44) dX8_plan_43 rfl rfl ?_
            refine Q_callSI (vs := [(0, a2)]) (st := []) (pc' := 47) dX8_plan_44 l_RX8_123 rfl (Nat.le_of_ble_eq_true rfl) rfl (Nat.zero_le _) (Nat.zero_le _) rfl ?_
            refine CI.mono h (fun c10 r11 h => ?_)
            by_cases hc12 : r11 = 0
            · have h := h.1 hc12
              refine R_eqS_if (tgt := 54) (pc' := 50) dX8_plan_47 (by decide) hc12 rfl ?_
              exact WP_wk (wk_e (wk_e (wk_e (wk_u wk_n)))) h
            · have h := h.2 hc12
              refine R_eqD_if (tgt := 54) (pc' := 50) dX8_plan_47 (by decide) hc12 h.1 rfl ?_
              have h := h.2
              exact WP_wk (wk_e (wk_e (wk_e (wk_u wk_n)))) h
          · have h := h.2 hc9
            refine R_neD_ic (tgt := 54) (pc' := 43) dX8_plan_40 (by decide) hc9 ⟨h.1, ir_l (by decide) (by decide)⟩ rfl ?_
            have h := h.2
            exact WP_wk (wk_e (wk_e (wk_e (wk_u wk_n)))) h
        · have h := h.2 hc8
          refine R_neD_if (tgt := 50) (pc' := 38) dX8_plan_35 (by decide) hc8 h.1 rfl ?_
          have h := h.2
          exact WP_wk (wk_e (wk_e (wk_e (wk_u wk_n)))) h
      · have h := h.2 hc5
        refine R_eqD_ic (tgt := 30) (pc' := 25) dX8_plan_22 (by decide) hc5 ⟨h.1, ir_l (by decide) (by decide)⟩ rfl ?_
        have h := h.2
        refine R_iload_n (pc' := 26) dX8_plan_25 rfl rfl ?_
        refine R_iconst (pc' := 27) dX8_plan_26 rfl ?_
        by_cases hc13 : a1 = 2
        · have h := h.1 hc13
          refine R_neS_ic (tgt := 38) (pc' := 30) dX8_plan_27 (by decide) hc13 rfl ?_
          refine R_aload_n (pc' := 31) dX8_plan_30 rfl i0.1 rfl ?_
          refine R_iload_n (pc' := 32) dX8_plan_31 rfl rfl ?_
          refine Q_callVI (vs := [(0, a2)]) (st := []) (pc' := 35) dX8_plan_32 l_RX8_86 i0 (by decide) rfl rfl (Nat.le_of_ble_eq_true rfl) rfl (Nat.zero_le _) (Nat.zero_le _) rfl ?_
          refine CI.mono h (fun c14 r15 h => ?_)
          by_cases hc16 : r15 = 0
          · have h := h.1 hc16
            refine R_neS_if (tgt := 50) (pc' := 38) dX8_plan_35 (by decide) hc16 rfl ?_
            refine R_iload_n (pc' := 39) dX8_plan_38 rfl rfl ?_
            refine R_iconst (pc' := 40) dX8_plan_39 rfl ?_
            by_cases hc17 : a1 = 3
            · have h := h.1 hc17
              refine R_neS_ic (tgt := 54) (pc' := 43) dX8_plan_40 (by decide) hc17 rfl ?_
              refine R_iload_n (pc' := 44) dX8_plan_43 rfl rfl ?_
              refine Q_callSI (vs := [(0, a2)]) (st := []) (pc' := 47) dX8_plan_44 l_RX8_123 rfl (Nat.le_of_ble_eq_true rfl) rfl (Nat.zero_le _) (Nat.zero_le _) rfl ?_
              refine CI.mono h (fun c18 r19 h => ?_)
              by_cases hc20 : r19 = 0
              · have h := h.1 hc20
                refine R_eqS_if (tgt := 54) (pc' := 50) dX8_plan_47 (by decide) hc20 rfl ?_
                exact WP_wk (wk_e (wk_e (wk_e (wk_u wk_n)))) h
              · have h := h.2 hc20
                refine R_eqD_if (tgt := 54) (pc' := 50) dX8_plan_47 (by decide) hc20 h.1 rfl ?_
                have h := h.2
                exact WP_wk (wk_e (wk_e (wk_e (wk_u wk_n)))) h
            · have h := h.2 hc17
              refine R_neD_ic (tgt := 54) (pc' := 43) dX8_plan_40 (by decide) hc17 ⟨h.1, ir_l (by decide) (by decide)⟩ rfl ?_
              have h := h.2
              exact WP_wk (wk_e (wk_e (wk_e (wk_u wk_n)))) h
          · have h := h.2 hc16
            refine R_neD_if (tgt := 50) (pc' := 38) dX8_plan_35 (by decide) hc16 h.1 rfl ?_
            have h := h.2
            exact WP_wk (wk_e (wk_e (wk_e (wk_u wk_n)))) h
        · have h := h.2 hc13
          refine R_neD_ic (tgt := 38) (pc' := 30) dX8_plan_27 (by decide) hc13 ⟨h.1, ir_l (by decide) (by decide)⟩ rfl ?_
          have h := h.2
          refine R_iload_n (pc' := 39) dX8_plan_38 rfl rfl ?_
          refine R_iconst (pc' := 40) dX8_plan_39 rfl ?_
          by_cases hc21 : a1 = 3
          · have h := h.1 hc21
            refine R_neS_ic (tgt := 54) (pc' := 43) dX8_plan_40 (by decide) hc21 rfl ?_
            refine R_iload_n (pc' := 44) dX8_plan_43 rfl rfl ?_
            refine Q_callSI (vs := [(0, a2)]) (st := []) (pc' := 47) dX8_plan_44 l_RX8_123 rfl (Nat.le_of_ble_eq_true rfl) rfl (Nat.zero_le _) (Nat.zero_le _) rfl ?_
            refine CI.mono h (fun c22 r23 h => ?_)
            by_cases hc24 : r23 = 0
            · have h := h.1 hc24
              refine R_eqS_if (tgt := 54) (pc' := 50) dX8_plan_47 (by decide) hc24 rfl ?_
              exact WP_wk (wk_e (wk_e (wk_e (wk_u wk_n)))) h
            · have h := h.2 hc24
              refine R_eqD_if (tgt := 54) (pc' := 50) dX8_plan_47 (by decide) hc24 h.1 rfl ?_
              have h := h.2
              exact WP_wk (wk_e (wk_e (wk_e (wk_u wk_n)))) h
          · have h := h.2 hc21
            refine R_neD_ic (tgt := 54) (pc' := 43) dX8_plan_40 (by decide) hc21 ⟨h.1, ir_l (by decide) (by decide)⟩ rfl ?_
            have h := h.2
            exact WP_wk (wk_e (wk_e (wk_e (wk_u wk_n)))) h
set_option maxRecDepth 100000 in
theorem s_X8_plan_50 {K : SK} {d : Nat} {c : ct} {Q : ct → Int → Prop} (a1 : Int) (a2 : Int) (h : CI K d mX5_add [(2, 16), (0, a1), (0, a2), (0, 0)] c (fun c1 r2 => Q c1 r2)) : WI K (d + 1) mX8_plan 50 [(2, 0), (0, a1), (0, a2), (9, 0)] [] c Q := by
  refine R_iconst (pc' := 51) dX8_plan_50 rfl ?_
  refine R_goto (tgt := 55) dX8_plan_51 (by decide) ?_
  refine R_istore_n (L' := [_, _, _, _]) (pc' := 56) dX8_plan_55 (by decide) rfl rfl rfl ?_
  refine R_iload_n (pc' := 57) dX8_plan_56 rfl rfl ?_
  refine R_eqD_if (tgt := 76) (pc' := 60) dX8_plan_57 (by decide) (by decide) (ir_l (by decide) (by decide)) rfl ?_
  refine R_aload_n (pc' := 61) dX8_plan_60 rfl i0.1 rfl ?_
  refine Q_getfr (v := 11) (J := 0) (pc' := 64) rfl dX8_plan_61 l_RX8_47 i0 fd8_0.1 fd8_0.2.1 fd8_0.2.2.1 fd8_0.2.2.2 f0_0 rfl ?_
  refine Q_getfNr (v := 16) (J := 2) (pc' := 67) rfl dX8_plan_64 l_RX8_256 i11 fd1_2.1 fd1_2.2.1 fd1_2.2.2.1 fd1_2.2.2.2 f11_2 rfl ?_
  refine R_iload_n (pc' := 68) dX8_plan_67 rfl rfl ?_
  refine R_iload_n (pc' := 69) dX8_plan_68 rfl rfl ?_
  refine R_iconst (pc' := 70) dX8_plan_69 rfl ?_
  refine Q_callVI (vs := [(0, a1), (0, a2), (0, 0)]) (st := []) (pc' := 73) dX8_plan_70 l_RX8_223 i16 (by decide) rfl rfl (Nat.le_of_ble_eq_true rfl) rfl (Nat.zero_le _) (Nat.zero_le _) rfl ?_
  refine CI.mono h (fun c1 r2 h => ?_)
  refine R_goto (tgt := 77) dX8_plan_73 (by decide) ?_
  exact Q_iret dX8_plan_77 rfl h
set_option maxRecDepth 100000 in
theorem s_X8_plan_54 {K : SK} {d : Nat} {c : ct} {Q : ct → Int → Prop} (a1 : Int) (a2 : Int) (h : Q c (-1)) : WI K (d + 1) mX8_plan 54 [(2, 0), (0, a1), (0, a2), (9, 0)] [] c Q := by
  refine R_iconst (pc' := 55) dX8_plan_54 rfl ?_
  refine R_istore_n (L' := [_, _, _, _]) (pc' := 56) dX8_plan_55 (by decide) rfl rfl rfl ?_
  refine R_iload_n (pc' := 57) dX8_plan_56 rfl rfl ?_
  refine R_eqS_if (tgt := 76) (pc' := 60) dX8_plan_57 (by decide) rfl rfl ?_
  refine R_iconst (pc' := 77) dX8_plan_76 rfl ?_
  exact Q_iret dX8_plan_77 rfl h
theorem e_X8_plan {K : SK} {d : Nat} {c : ct} {Q : ct → Int → Prop} (a1 : Int) (a2 : Int) (h : WI K (d + 1) mX8_plan 0 [(2, 0), (0, a1), (0, a2), (9, 0)] [] c Q) : CI K (d + 1) mX8_plan [(2, 0), (0, a1), (0, a2)] c Q := CM_ofS (by decide) (Nat.le_of_ble_eq_true rfl) _ rfl h
set_option maxRecDepth 100000 in
theorem s_X8_ends_0 {K : SK} {d : Nat} {c : ct} {Q : ct → Int → Prop} (a1 : Int) (h : (ir a1) ∧ (a1 < 0 → Q c (-1)) ∧ (¬ (a1 < 0) → (ir a1) ∧ (a1 ≤ 1 → CV K d mX6_copyFrom [(2, 59), (2, 24)] c (fun c5 => WI K (d + 1) mX8_ends 27 [(2, 0), (0, a1), (0, 0)] [] c5 Q)) ∧ (¬ (a1 ≤ 1) → Q c (-1)))) : WI K (d + 1) mX8_ends 0 [(2, 0), (0, a1), (9, 0)] [] c Q := by
  refine R_iload_n (pc' := 1) dX8_ends_0 rfl rfl ?_
  have hs2 := h.1
  have h := h.2
  refine R_if_lt (tgt := 9) (pc' := 4) dX8_ends_1 (by decide) hs2  rfl (fun hc1 => ?_) (fun hc1 => ?_)
  · have h := h.1 hc1
    refine R_iconst (pc' := 10) dX8_ends_9 rfl ?_
    exact Q_iret dX8_ends_10 rfl h
  · have h := h.2 hc1
    refine R_iload_n (pc' := 5) dX8_ends_4 rfl rfl ?_
    refine R_iconst (pc' := 6) dX8_ends_5 rfl ?_
    have hs4 := h.1
    have h := h.2
    refine R_icmp_le (tgt := 11) (pc' := 9) dX8_ends_6 (by decide) hs4 (ir_l (by decide) (by decide)) rfl (fun hc3 => ?_) (fun hc3 => ?_)
    · have h := h.1 hc3
      refine R_aload_n (pc' := 12) dX8_ends_11 rfl i0.1 rfl ?_
      refine Q_getfr (v := 59) (J := 3) (pc' := 15) rfl dX8_ends_12 l_RX8_57 i0 fd8_3.1 fd8_3.2.1 fd8_3.2.2.1 fd8_3.2.2.2 f0_3 rfl ?_
      refine R_aload_n (pc' := 16) dX8_ends_15 rfl i0.1 rfl ?_
      refine Q_getfr (v := 11) (J := 0) (pc' := 19) rfl dX8_ends_16 l_RX8_47 i0 fd8_0.1 fd8_0.2.1 fd8_0.2.2.1 fd8_0.2.2.2 f0_0 rfl ?_
      refine Q_getfNr (v := 24) (J := 0) (pc' := 22) rfl dX8_ends_19 l_RX8_75 i11 fd1_0.1 fd1_0.2.1 fd1_0.2.2.1 fd1_0.2.2.2 f11_0 rfl ?_
      refine Q_callVV (vs := [(2, 24)]) (st := []) (pc' := 25) dX8_ends_22 l_RX8_196 i59 (by decide) rfl rfl (Nat.le_of_ble_eq_true rfl) rfl (Nat.zero_le _) (Nat.zero_le _) rfl ?_
      refine CV.mono h (fun c5 h => ?_)
      refine R_iconst (pc' := 26) dX8_ends_25 rfl ?_
      refine R_istore_n (L' := [_, _, _]) (pc' := 27) dX8_ends_26 (by decide) rfl rfl rfl ?_
      exact WP_wk (wk_e (wk_e (wk_e wk_n))) h
    · have h := h.2 hc3
      refine R_iconst (pc' := 10) dX8_ends_9 rfl ?_
      exact Q_iret dX8_ends_10 rfl h
set_option maxRecDepth 100000 in
theorem s_X8_ends_27 {K : SK} {d : Nat} {c : ct} {Q : ct → Int → Prop} (a1 : Int) (a2 : Int) (h : (ir a2 ∧ ir (c 16 4)) ∧ ((c 16 4) ≤ a2 → (a1 = 0 → CI K d mX6_emptyCups [(2, 59)] c (fun c4 r5 => Q c4 r5)) ∧ (¬ (a1 = 0) → ir a1 ∧ CI K d mX8_usedMore [(2, 0)] c (fun c6 r7 => Q c6 r7))) ∧ (¬ ((c 16 4) ≤ a2) → ((0 ≤ a2 ∧ a2 < 10)) ∧ ((0 ≤ a2 ∧ a2 < 10)) ∧ CV K d mX8_tryPlanned [(2, 0), (0, (c 17 a2)), (0, (c 18 a2))] c (fun c10 => WI K (d + 1) mX8_ends 27 [(2, 0), (0, a1), (0, (a2 + 1))] [] c10 Q))) : WI K (d + 1) mX8_ends 27 [(2, 0), (0, a1), (0, a2)] [] c Q := by
  refine R_iload_n (pc' := 28) dX8_ends_27 rfl rfl ?_
  refine R_aload_n (pc' := 29) dX8_ends_28 rfl i0.1 rfl ?_
  refine Q_getfr (v := 11) (J := 0) (pc' := 32) rfl dX8_ends_29 l_RX8_47 i0 fd8_0.1 fd8_0.2.1 fd8_0.2.2.1 fd8_0.2.2.2 f0_0 rfl ?_
  refine Q_getfNr (v := 16) (J := 2) (pc' := 35) rfl dX8_ends_32 l_RX8_256 i11 fd1_2.1 fd1_2.2.1 fd1_2.2.2.1 fd1_2.2.2.2 f11_2 rfl ?_
  refine Q_getfNi (J := 4) (pc' := 38) rfl dX8_ends_35 l_RX8_240 i16 fd5_4.1 fd5_4.2.1 fd5_4.2.2.1 rfl ?_
  have hs2 := h.1
  have h := h.2
  refine R_icmp_ge (tgt := 75) (pc' := 41) dX8_ends_38 (by decide) hs2.1 hs2.2 rfl (fun hc1 => ?_) (fun hc1 => ?_)
  · have h := h.1 hc1
    refine R_iload_n (pc' := 76) dX8_ends_75 rfl rfl ?_
    by_cases hc3 : a1 = 0
    · have h := h.1 hc3
      refine R_neS_if (tgt := 89) (pc' := 79) dX8_ends_76 (by decide) hc3 rfl ?_
      refine R_aload_n (pc' := 80) dX8_ends_79 rfl i0.1 rfl ?_
      refine Q_getfr (v := 59) (J := 3) (pc' := 83) rfl dX8_ends_80 l_RX8_57 i0 fd8_3.1 fd8_3.2.1 fd8_3.2.2.1 fd8_3.2.2.2 f0_3 rfl ?_
      refine Q_callVI (vs := []) (st := []) (pc' := 86) dX8_ends_83 l_RX8_134 i59 (by decide) rfl rfl (Nat.le_of_ble_eq_true rfl) rfl (Nat.zero_le _) (Nat.zero_le _) rfl ?_
      refine CI.mono h (fun c4 r5 h => ?_)
      refine R_goto (tgt := 93) dX8_ends_86 (by decide) ?_
      exact Q_iret dX8_ends_93 rfl h
    · have h := h.2 hc3
      refine R_neD_if (tgt := 89) (pc' := 79) dX8_ends_76 (by decide) hc3 h.1 rfl ?_
      have h := h.2
      refine R_aload_n (pc' := 90) dX8_ends_89 rfl i0.1 rfl ?_
      refine Q_callVI (vs := []) (st := []) (pc' := 93) dX8_ends_90 l_RX8_199 i0 (by decide) rfl rfl (Nat.le_of_ble_eq_true rfl) rfl (Nat.zero_le _) (Nat.zero_le _) rfl ?_
      refine CI.mono h (fun c6 r7 h => ?_)
      exact Q_iret dX8_ends_93 rfl h
  · have h := h.2 hc1
    refine R_aload_n (pc' := 42) dX8_ends_41 rfl i0.1 rfl ?_
    refine R_aload_n (pc' := 43) dX8_ends_42 rfl i0.1 rfl ?_
    refine Q_getfr (v := 11) (J := 0) (pc' := 46) rfl dX8_ends_43 l_RX8_47 i0 fd8_0.1 fd8_0.2.1 fd8_0.2.2.1 fd8_0.2.2.2 f0_0 rfl ?_
    refine Q_getfNr (v := 16) (J := 2) (pc' := 49) rfl dX8_ends_46 l_RX8_256 i11 fd1_2.1 fd1_2.2.1 fd1_2.2.2.1 fd1_2.2.2.2 f11_2 rfl ?_
    refine Q_getfNr (v := 17) (J := 0) (pc' := 52) rfl dX8_ends_49 l_RX8_241 i16 fd5_0.1 fd5_0.2.1 fd5_0.2.2.1 fd5_0.2.2.2 f16_0 rfl ?_
    refine R_iload_n (pc' := 53) dX8_ends_52 rfl rfl ?_
    have hs8 := h.1
    have h := h.2
    refine Q_iaload (N := 10) (pc' := 54) rfl dX8_ends_53 i17 (by decide) hs8 rfl ?_
    refine R_aload_n (pc' := 55) dX8_ends_54 rfl i0.1 rfl ?_
    refine Q_getfr (v := 11) (J := 0) (pc' := 58) rfl dX8_ends_55 l_RX8_47 i0 fd8_0.1 fd8_0.2.1 fd8_0.2.2.1 fd8_0.2.2.2 f0_0 rfl ?_
    refine Q_getfNr (v := 16) (J := 2) (pc' := 61) rfl dX8_ends_58 l_RX8_256 i11 fd1_2.1 fd1_2.2.1 fd1_2.2.2.1 fd1_2.2.2.2 f11_2 rfl ?_
    refine Q_getfNr (v := 18) (J := 1) (pc' := 64) rfl dX8_ends_61 l_RX8_247 i16 fd5_1.1 fd5_1.2.1 fd5_1.2.2.1 fd5_1.2.2.2 f16_1 rfl ?_
    refine R_iload_n (pc' := 65) dX8_ends_64 rfl rfl ?_
    have hs9 := h.1
    have h := h.2
    refine Q_iaload (N := 10) (pc' := 66) rfl dX8_ends_65 i18 (by decide) hs9 rfl ?_
    refine Q_callVV (vs := [(0, (c 17 a2)), (0, (c 18 a2))]) (st := []) (pc' := 69) dX8_ends_66 l_RX8_259 i0 (by decide) rfl rfl (Nat.le_of_ble_eq_true rfl) rfl (Nat.zero_le _) (Nat.zero_le _) rfl ?_
    refine CV.mono h (fun c10 h => ?_)
    refine R_iinc (L' := [_, _, _]) (pc' := 72) dX8_ends_69 rfl (by decide) rfl rfl rfl ?_
    refine R_goto (tgt := 27) dX8_ends_72 (by decide) ?_
    exact WP_wk (wk_e (wk_e (wk_e wk_n))) h
theorem e_X8_ends {K : SK} {d : Nat} {c : ct} {Q : ct → Int → Prop} (a1 : Int) (h : WI K (d + 1) mX8_ends 0 [(2, 0), (0, a1), (9, 0)] [] c Q) : CI K (d + 1) mX8_ends [(2, 0), (0, a1)] c Q := CM_ofS (by decide) (Nat.le_of_ble_eq_true rfl) _ rfl h
set_option maxRecDepth 100000 in
theorem s_X8_tryPlanned_0 {K : SK} {d : Nat} {c : ct} {Q : ct → Prop} (a1 : Int) (a2 : Int) (h : (a1 = 0 → CV K d mX6_yearsGo [(2, 59), (0, 1)] c (fun c2 => Q c2)) ∧ (¬ (a1 = 0) → ir a1 ∧ (a1 = 3 → CI K d mX8_isSeat [(0, a2)] c (fun c5 r6 => (r6 = 0 → WV K (d + 1) mX8_tryPlanned 38 [(2, 0), (0, a1), (0, a2)] [] c5 Q) ∧ (¬ (r6 = 0) → ir r6 ∧ CV K d mX6_pourAt [(2, 59), (0, a2)] c5 (fun c8 => Q c8)))) ∧ (¬ (a1 = 3) → ir a1 ∧ WV K (d + 1) mX8_tryPlanned 38 [(2, 0), (0, a1), (0, a2)] [] c Q))) : WV K (d + 1) mX8_tryPlanned 0 [(2, 0), (0, a1), (0, a2)] [] c Q := by
  refine R_iload_n (pc' := 1) dX8_tryPlanned_0 rfl rfl ?_
  by_cases hc1 : a1 = 0
  · have h := h.1 hc1
    refine R_neS_if (tgt := 15) (pc' := 4) dX8_tryPlanned_1 (by decide) hc1 rfl ?_
    refine R_aload_n (pc' := 5) dX8_tryPlanned_4 rfl i0.1 rfl ?_
    refine Q_getfr (v := 59) (J := 3) (pc' := 8) rfl dX8_tryPlanned_5 l_RX8_57 i0 fd8_3.1 fd8_3.2.1 fd8_3.2.2.1 fd8_3.2.2.2 f0_3 rfl ?_
    refine R_iconst (pc' := 9) dX8_tryPlanned_8 rfl ?_
    refine Q_callVV (vs := [(0, 1)]) (st := []) (pc' := 12) dX8_tryPlanned_9 l_RX8_193 i59 (by decide) rfl rfl (Nat.le_of_ble_eq_true rfl) rfl (Nat.zero_le _) (Nat.zero_le _) rfl ?_
    refine CV.mono h (fun c2 h => ?_)
    refine R_goto (tgt := 65) dX8_tryPlanned_12 (by decide) ?_
    exact Q_ret dX8_tryPlanned_65 rfl h
  · have h := h.2 hc1
    refine R_neD_if (tgt := 15) (pc' := 4) dX8_tryPlanned_1 (by decide) hc1 h.1 rfl ?_
    have h := h.2
    refine R_iload_n (pc' := 16) dX8_tryPlanned_15 rfl rfl ?_
    refine R_iconst (pc' := 17) dX8_tryPlanned_16 rfl ?_
    by_cases hc4 : a1 = 3
    · have h := h.1 hc4
      refine R_neS_ic (tgt := 38) (pc' := 20) dX8_tryPlanned_17 (by decide) hc4 rfl ?_
      refine R_iload_n (pc' := 21) dX8_tryPlanned_20 rfl rfl ?_
      refine Q_callSI (vs := [(0, a2)]) (st := []) (pc' := 24) dX8_tryPlanned_21 l_RX8_123 rfl (Nat.le_of_ble_eq_true rfl) rfl (Nat.zero_le _) (Nat.zero_le _) rfl ?_
      refine CI.mono h (fun c5 r6 h => ?_)
      by_cases hc7 : r6 = 0
      · have h := h.1 hc7
        refine R_eqS_if (tgt := 38) (pc' := 27) dX8_tryPlanned_24 (by decide) hc7 rfl ?_
        exact WP_wk (wk_e (wk_e (wk_e wk_n))) h
      · have h := h.2 hc7
        refine R_eqD_if (tgt := 38) (pc' := 27) dX8_tryPlanned_24 (by decide) hc7 h.1 rfl ?_
        have h := h.2
        refine R_aload_n (pc' := 28) dX8_tryPlanned_27 rfl i0.1 rfl ?_
        refine Q_getfr (v := 59) (J := 3) (pc' := 31) rfl dX8_tryPlanned_28 l_RX8_57 i0 fd8_3.1 fd8_3.2.1 fd8_3.2.2.1 fd8_3.2.2.2 f0_3 rfl ?_
        refine R_iload_n (pc' := 32) dX8_tryPlanned_31 rfl rfl ?_
        refine Q_callVV (vs := [(0, a2)]) (st := []) (pc' := 35) dX8_tryPlanned_32 l_RX8_130 i59 (by decide) rfl rfl (Nat.le_of_ble_eq_true rfl) rfl (Nat.zero_le _) (Nat.zero_le _) rfl ?_
        refine CV.mono h (fun c8 h => ?_)
        refine R_goto (tgt := 65) dX8_tryPlanned_35 (by decide) ?_
        exact Q_ret dX8_tryPlanned_65 rfl h
    · have h := h.2 hc4
      refine R_neD_ic (tgt := 38) (pc' := 20) dX8_tryPlanned_17 (by decide) hc4 ⟨h.1, ir_l (by decide) (by decide)⟩ rfl ?_
      have h := h.2
      exact WP_wk (wk_e (wk_e (wk_e wk_n))) h
set_option maxRecDepth 100000 in
theorem s_X8_tryPlanned_38 {K : SK} {d : Nat} {c : ct} {Q : ct → Prop} (a1 : Int) (a2 : Int) (h : CI K d mX8_isGuest [(2, 0), (0, a2)] c (fun c1 r2 => (r2 = 0 → Q c1) ∧ (¬ (r2 = 0) → ir r2 ∧ (a1 = 1 → ((0 ≤ a2 ∧ a2 < 6)) ∧ ∀ c5 : ct, c5 = up2 c1 65 a2 1 → Q c5) ∧ (¬ (a1 = 1) → ir a1 ∧ ((0 ≤ a2 ∧ a2 < 6)) ∧ ∀ c7 : ct, c7 = up2 c1 65 a2 0 → Q c7)))) : WV K (d + 1) mX8_tryPlanned 38 [(2, 0), (0, a1), (0, a2)] [] c Q := by
  refine R_aload_n (pc' := 39) dX8_tryPlanned_38 rfl i0.1 rfl ?_
  refine R_iload_n (pc' := 40) dX8_tryPlanned_39 rfl rfl ?_
  refine Q_callVI (vs := [(0, a2)]) (st := []) (pc' := 43) dX8_tryPlanned_40 l_RX8_86 i0 (by decide) rfl rfl (Nat.le_of_ble_eq_true rfl) rfl (Nat.zero_le _) (Nat.zero_le _) rfl ?_
  refine CI.mono h (fun c1 r2 h => ?_)
  by_cases hc3 : r2 = 0
  · have h := h.1 hc3
    refine R_eqS_if (tgt := 65) (pc' := 46) dX8_tryPlanned_43 (by decide) hc3 rfl ?_
    exact Q_ret dX8_tryPlanned_65 rfl h
  · have h := h.2 hc3
    refine R_eqD_if (tgt := 65) (pc' := 46) dX8_tryPlanned_43 (by decide) hc3 h.1 rfl ?_
    have h := h.2
    refine R_aload_n (pc' := 47) dX8_tryPlanned_46 rfl i0.1 rfl ?_
    refine Q_getfr (v := 59) (J := 3) (pc' := 50) rfl dX8_tryPlanned_47 l_RX8_57 i0 fd8_3.1 fd8_3.2.1 fd8_3.2.2.1 fd8_3.2.2.2 f0_3 rfl ?_
    refine Q_getfNr (v := 65) (J := 5) (pc' := 53) rfl dX8_tryPlanned_50 l_RX8_110 i59 fd6_5.1 fd6_5.2.1 fd6_5.2.2.1 fd6_5.2.2.2 f59_5 rfl ?_
    refine R_iload_n (pc' := 54) dX8_tryPlanned_53 rfl rfl ?_
    refine R_iload_n (pc' := 55) dX8_tryPlanned_54 rfl rfl ?_
    refine R_iconst (pc' := 56) dX8_tryPlanned_55 rfl ?_
    by_cases hc4 : a1 = 1
    · have h := h.1 hc4
      refine R_neS_ic (tgt := 63) (pc' := 59) dX8_tryPlanned_56 (by decide) hc4 rfl ?_
      refine R_iconst (pc' := 60) dX8_tryPlanned_59 rfl ?_
      refine R_goto (tgt := 64) dX8_tryPlanned_60 (by decide) ?_
      have hs6 := h.1
      have h := h.2
      refine Q_zastore (N := 6) (pc' := 65) rfl dX8_tryPlanned_64 i65 (by decide) hs6 (Or.inr rfl) rfl (fun c5 hc5 => ?_)
      have h := h c5 hc5
      exact Q_ret dX8_tryPlanned_65 rfl h
    · have h := h.2 hc4
      refine R_neD_ic (tgt := 63) (pc' := 59) dX8_tryPlanned_56 (by decide) hc4 ⟨h.1, ir_l (by decide) (by decide)⟩ rfl ?_
      have h := h.2
      refine R_iconst (pc' := 64) dX8_tryPlanned_63 rfl ?_
      have hs8 := h.1
      have h := h.2
      refine Q_zastore (N := 6) (pc' := 65) rfl dX8_tryPlanned_64 i65 (by decide) hs8 (Or.inl rfl) rfl (fun c7 hc7 => ?_)
      have h := h c7 hc7
      exact Q_ret dX8_tryPlanned_65 rfl h
theorem e_X8_tryPlanned {K : SK} {d : Nat} {c : ct} {Q : ct → Prop} (a1 : Int) (a2 : Int) (h : WV K (d + 1) mX8_tryPlanned 0 [(2, 0), (0, a1), (0, a2)] [] c Q) : CV K (d + 1) mX8_tryPlanned [(2, 0), (0, a1), (0, a2)] c Q := CM_ofS (by decide) (Nat.le_of_ble_eq_true rfl) _ rfl h
set_option maxRecDepth 100000 in
theorem s_X8_book_0 {K : SK} {d : Nat} {c : ct} {Q : ct → Int → Prop} (a1 : Int) (a2 : Int) (h : (a1 = (-1) → CI K d mX5_empty [(2, 20)] c (fun c2 r3 => Q c2 r3)) ∧ (¬ (a1 = (-1)) → ir a1 ∧ CI K d mX8_isGuest [(2, 0), (0, a1)] c (fun c4 r5 => (r5 = 0 → Q c4 (-1)) ∧ (¬ (r5 = 0) → ir r5 ∧ CI K d mX8_isSeat [(0, a2)] c4 (fun c7 r8 => (r8 = 0 → Q c7 (-1)) ∧ (¬ (r8 = 0) → ir r8 ∧ CI K d mX5_add [(2, 20), (0, a1), (0, a2), (0, 0)] c7 (fun c10 r11 => Q c10 r11))))))) : WI K (d + 1) mX8_book 0 [(2, 0), (0, a1), (0, a2)] [] c Q := by
  refine R_iload_n (pc' := 1) dX8_book_0 rfl rfl ?_
  refine R_iconst (pc' := 2) dX8_book_1 rfl ?_
  by_cases hc1 : a1 = (-1)
  · have h := h.1 hc1
    refine R_neS_ic (tgt := 16) (pc' := 5) dX8_book_2 (by decide) hc1 rfl ?_
    refine R_aload_n (pc' := 6) dX8_book_5 rfl i0.1 rfl ?_
    refine Q_getfr (v := 11) (J := 0) (pc' := 9) rfl dX8_book_6 l_RX8_47 i0 fd8_0.1 fd8_0.2.1 fd8_0.2.2.1 fd8_0.2.2.2 f0_0 rfl ?_
    refine Q_getfNr (v := 20) (J := 3) (pc' := 12) rfl dX8_book_9 l_RX8_262 i11 fd1_3.1 fd1_3.2.1 fd1_3.2.2.1 fd1_3.2.2.2 f11_3 rfl ?_
    refine Q_callVI (vs := []) (st := []) (pc' := 15) dX8_book_12 l_RX8_219 i20 (by decide) rfl rfl (Nat.le_of_ble_eq_true rfl) rfl (Nat.zero_le _) (Nat.zero_le _) rfl ?_
    refine CI.mono h (fun c2 r3 h => ?_)
    exact Q_iret dX8_book_15 rfl h
  · have h := h.2 hc1
    refine R_neD_ic (tgt := 16) (pc' := 5) dX8_book_2 (by decide) hc1 ⟨h.1, ir_l (by decide) (by decide)⟩ rfl ?_
    have h := h.2
    refine R_aload_n (pc' := 17) dX8_book_16 rfl i0.1 rfl ?_
    refine R_iload_n (pc' := 18) dX8_book_17 rfl rfl ?_
    refine Q_callVI (vs := [(0, a1)]) (st := []) (pc' := 21) dX8_book_18 l_RX8_86 i0 (by decide) rfl rfl (Nat.le_of_ble_eq_true rfl) rfl (Nat.zero_le _) (Nat.zero_le _) rfl ?_
    refine CI.mono h (fun c4 r5 h => ?_)
    by_cases hc6 : r5 = 0
    · have h := h.1 hc6
      refine R_eqS_if (tgt := 47) (pc' := 24) dX8_book_21 (by decide) hc6 rfl ?_
      refine R_iconst (pc' := 48) dX8_book_47 rfl ?_
      exact Q_iret dX8_book_48 rfl h
    · have h := h.2 hc6
      refine R_eqD_if (tgt := 47) (pc' := 24) dX8_book_21 (by decide) hc6 h.1 rfl ?_
      have h := h.2
      refine R_iload_n (pc' := 25) dX8_book_24 rfl rfl ?_
      refine Q_callSI (vs := [(0, a2)]) (st := []) (pc' := 28) dX8_book_25 l_RX8_123 rfl (Nat.le_of_ble_eq_true rfl) rfl (Nat.zero_le _) (Nat.zero_le _) rfl ?_
      refine CI.mono h (fun c7 r8 h => ?_)
      by_cases hc9 : r8 = 0
      · have h := h.1 hc9
        refine R_eqS_if (tgt := 47) (pc' := 31) dX8_book_28 (by decide) hc9 rfl ?_
        refine R_iconst (pc' := 48) dX8_book_47 rfl ?_
        exact Q_iret dX8_book_48 rfl h
      · have h := h.2 hc9
        refine R_eqD_if (tgt := 47) (pc' := 31) dX8_book_28 (by decide) hc9 h.1 rfl ?_
        have h := h.2
        refine R_aload_n (pc' := 32) dX8_book_31 rfl i0.1 rfl ?_
        refine Q_getfr (v := 11) (J := 0) (pc' := 35) rfl dX8_book_32 l_RX8_47 i0 fd8_0.1 fd8_0.2.1 fd8_0.2.2.1 fd8_0.2.2.2 f0_0 rfl ?_
        refine Q_getfNr (v := 20) (J := 3) (pc' := 38) rfl dX8_book_35 l_RX8_262 i11 fd1_3.1 fd1_3.2.1 fd1_3.2.2.1 fd1_3.2.2.2 f11_3 rfl ?_
        refine R_iload_n (pc' := 39) dX8_book_38 rfl rfl ?_
        refine R_iload_n (pc' := 40) dX8_book_39 rfl rfl ?_
        refine R_iconst (pc' := 41) dX8_book_40 rfl ?_
        refine Q_callVI (vs := [(0, a1), (0, a2), (0, 0)]) (st := []) (pc' := 44) dX8_book_41 l_RX8_223 i20 (by decide) rfl rfl (Nat.le_of_ble_eq_true rfl) rfl (Nat.zero_le _) (Nat.zero_le _) rfl ?_
        refine CI.mono h (fun c10 r11 h => ?_)
        refine R_goto (tgt := 48) dX8_book_44 (by decide) ?_
        exact Q_iret dX8_book_48 rfl h
theorem e_X8_book {K : SK} {d : Nat} {c : ct} {Q : ct → Int → Prop} (a1 : Int) (a2 : Int) (h : WI K (d + 1) mX8_book 0 [(2, 0), (0, a1), (0, a2)] [] c Q) : CI K (d + 1) mX8_book [(2, 0), (0, a1), (0, a2)] c Q := CM_ofS (by decide) (Nat.le_of_ble_eq_true rfl) _ rfl h
set_option maxRecDepth 100000 in
theorem s_X8_looked_0 {K : SK} {d : Nat} {c : ct} {Q : ct → Int → Prop}  (h : WI K (d + 1) mX8_looked 2 [(2, 0), (0, 0), (9, 0)] [] c Q) : WI K (d + 1) mX8_looked 0 [(2, 0), (9, 0), (9, 0)] [] c Q := by
  refine R_iconst (pc' := 1) dX8_looked_0 rfl ?_
  refine R_istore_n (L' := [_, _, _]) (pc' := 2) dX8_looked_1 (by decide) rfl rfl rfl ?_
  exact WP_wk (wk_e (wk_e (wk_u wk_n))) h
set_option maxRecDepth 100000 in
theorem s_X8_looked_2 {K : SK} {d : Nat} {c : ct} {Q : ct → Int → Prop} (a1 : Int) (h : (ir a1 ∧ ir (c 20 4)) ∧ ((c 20 4) ≤ a1 → Q c (-5)) ∧ (¬ ((c 20 4) ≤ a1) → ((0 ≤ a1 ∧ a1 < 8)) ∧ CI K d mX8_isGuest [(2, 0), (0, (c 21 a1))] c (fun c4 r5 => (r5 = 0 → WI K (d + 1) mX8_looked 2 [(2, 0), (0, (a1 + 1)), (9, 0)] [] c4 Q) ∧ (¬ (r5 = 0) → ir r5 ∧ ((0 ≤ (c 21 a1) ∧ (c 21 a1) < 6)) ∧ ((0 ≤ a1 ∧ a1 < 8)) ∧ ((c4 27 (c 21 a1)) = (c4 22 a1) → WI K (d + 1) mX8_looked 2 [(2, 0), (0, (a1 + 1)), (9, 0)] [] c4 Q) ∧ (¬ ((c4 27 (c 21 a1)) = (c4 22 a1)) → (ir (c4 27 (c 21 a1)) ∧ ir (c4 22 a1)) ∧ Q c4 a1))))) : WI K (d + 1) mX8_looked 2 [(2, 0), (0, a1), (9, 0)] [] c Q := by
  refine R_iload_n (pc' := 3) dX8_looked_2 rfl rfl ?_
  refine R_aload_n (pc' := 4) dX8_looked_3 rfl i0.1 rfl ?_
  refine Q_getfr (v := 11) (J := 0) (pc' := 7) rfl dX8_looked_4 l_RX8_47 i0 fd8_0.1 fd8_0.2.1 fd8_0.2.2.1 fd8_0.2.2.2 f0_0 rfl ?_
  refine Q_getfNr (v := 20) (J := 3) (pc' := 10) rfl dX8_looked_7 l_RX8_262 i11 fd1_3.1 fd1_3.2.1 fd1_3.2.2.1 fd1_3.2.2.2 f11_3 rfl ?_
  refine Q_getfNi (J := 4) (pc' := 13) rfl dX8_looked_10 l_RX8_240 i20 fd5_4.1 fd5_4.2.1 fd5_4.2.2.1 rfl ?_
  have hs2 := h.1
  have h := h.2
  refine R_icmp_ge (tgt := 72) (pc' := 16) dX8_looked_13 (by decide) hs2.1 hs2.2 rfl (fun hc1 => ?_) (fun hc1 => ?_)
  · have h := h.1 hc1
    refine R_bipush (pc' := 74) dX8_looked_72 (by decide) rfl ?_
    exact Q_iret dX8_looked_74 rfl h
  · have h := h.2 hc1
    refine R_aload_n (pc' := 17) dX8_looked_16 rfl i0.1 rfl ?_
    refine Q_getfr (v := 11) (J := 0) (pc' := 20) rfl dX8_looked_17 l_RX8_47 i0 fd8_0.1 fd8_0.2.1 fd8_0.2.2.1 fd8_0.2.2.2 f0_0 rfl ?_
    refine Q_getfNr (v := 20) (J := 3) (pc' := 23) rfl dX8_looked_20 l_RX8_262 i11 fd1_3.1 fd1_3.2.1 fd1_3.2.2.1 fd1_3.2.2.2 f11_3 rfl ?_
    refine Q_getfNr (v := 21) (J := 0) (pc' := 26) rfl dX8_looked_23 l_RX8_241 i20 fd5_0.1 fd5_0.2.1 fd5_0.2.2.1 fd5_0.2.2.2 f20_0 rfl ?_
    refine R_iload_n (pc' := 27) dX8_looked_26 rfl rfl ?_
    have hs3 := h.1
    have h := h.2
    refine Q_iaload (N := 8) (pc' := 28) rfl dX8_looked_27 i21 (by decide) hs3 rfl ?_
    refine R_istore_n (L' := [_, _, _]) (pc' := 29) dX8_looked_28 (by decide) rfl rfl rfl ?_
    refine R_aload_n (pc' := 30) dX8_looked_29 rfl i0.1 rfl ?_
    refine R_iload_n (pc' := 31) dX8_looked_30 rfl rfl ?_
    refine Q_callVI (vs := [(0, (c 21 a1))]) (st := []) (pc' := 34) dX8_looked_31 l_RX8_86 i0 (by decide) rfl rfl (Nat.le_of_ble_eq_true rfl) rfl (Nat.zero_le _) (Nat.zero_le _) rfl ?_
    refine CI.mono h (fun c4 r5 h => ?_)
    by_cases hc6 : r5 = 0
    · have h := h.1 hc6
      refine R_eqS_if (tgt := 66) (pc' := 37) dX8_looked_34 (by decide) hc6 rfl ?_
      refine R_iinc (L' := [_, _, _]) (pc' := 69) dX8_looked_66 rfl (by decide) rfl rfl rfl ?_
      refine R_goto (tgt := 2) dX8_looked_69 (by decide) ?_
      exact WP_wk (wk_e (wk_e (wk_u wk_n))) h
    · have h := h.2 hc6
      refine R_eqD_if (tgt := 66) (pc' := 37) dX8_looked_34 (by decide) hc6 h.1 rfl ?_
      have h := h.2
      refine R_aload_n (pc' := 38) dX8_looked_37 rfl i0.1 rfl ?_
      refine Q_getfr (v := 11) (J := 0) (pc' := 41) rfl dX8_looked_38 l_RX8_47 i0 fd8_0.1 fd8_0.2.1 fd8_0.2.2.1 fd8_0.2.2.2 f0_0 rfl ?_
      refine Q_getfNr (v := 24) (J := 0) (pc' := 44) rfl dX8_looked_41 l_RX8_75 i11 fd1_0.1 fd1_0.2.1 fd1_0.2.2.1 fd1_0.2.2.2 f11_0 rfl ?_
      refine Q_getfNr (v := 27) (J := 2) (pc' := 47) rfl dX8_looked_44 l_RX8_96 i24 fd6_2.1 fd6_2.2.1 fd6_2.2.2.1 fd6_2.2.2.2 f24_2 rfl ?_
      refine R_iload_n (pc' := 48) dX8_looked_47 rfl rfl ?_
      have hs7 := h.1
      have h := h.2
      refine Q_iaload (N := 6) (pc' := 49) rfl dX8_looked_48 i27 (by decide) hs7 rfl ?_
      refine R_aload_n (pc' := 50) dX8_looked_49 rfl i0.1 rfl ?_
      refine Q_getfr (v := 11) (J := 0) (pc' := 53) rfl dX8_looked_50 l_RX8_47 i0 fd8_0.1 fd8_0.2.1 fd8_0.2.2.1 fd8_0.2.2.2 f0_0 rfl ?_
      refine Q_getfNr (v := 20) (J := 3) (pc' := 56) rfl dX8_looked_53 l_RX8_262 i11 fd1_3.1 fd1_3.2.1 fd1_3.2.2.1 fd1_3.2.2.2 f11_3 rfl ?_
      refine Q_getfNr (v := 22) (J := 1) (pc' := 59) rfl dX8_looked_56 l_RX8_247 i20 fd5_1.1 fd5_1.2.1 fd5_1.2.2.1 fd5_1.2.2.2 f20_1 rfl ?_
      refine R_iload_n (pc' := 60) dX8_looked_59 rfl rfl ?_
      have hs8 := h.1
      have h := h.2
      refine Q_iaload (N := 8) (pc' := 61) rfl dX8_looked_60 i22 (by decide) hs8 rfl ?_
      by_cases hc9 : (c4 27 (c 21 a1)) = (c4 22 a1)
      · have h := h.1 hc9
        refine R_eqS_ic (tgt := 66) (pc' := 64) dX8_looked_61 (by decide) hc9 rfl ?_
        refine R_iinc (L' := [_, _, _]) (pc' := 69) dX8_looked_66 rfl (by decide) rfl rfl rfl ?_
        refine R_goto (tgt := 2) dX8_looked_69 (by decide) ?_
        exact WP_wk (wk_e (wk_e (wk_u wk_n))) h
      · have h := h.2 hc9
        refine R_eqD_ic (tgt := 66) (pc' := 64) dX8_looked_61 (by decide) hc9 h.1 rfl ?_
        have h := h.2
        refine R_iload_n (pc' := 65) dX8_looked_64 rfl rfl ?_
        exact Q_iret dX8_looked_65 rfl h
theorem e_X8_looked {K : SK} {d : Nat} {c : ct} {Q : ct → Int → Prop}  (h : WI K (d + 1) mX8_looked 0 [(2, 0), (9, 0), (9, 0)] [] c Q) : CI K (d + 1) mX8_looked [(2, 0)] c Q := CM_ofS (by decide) (Nat.le_of_ble_eq_true rfl) _ rfl h
set_option maxRecDepth 100000 in
theorem s_X8_judge_0 {K : SK} {d : Nat} {c : ct} {Q : ct → Int → Prop} (a1 : Int) (a2 : Int) (h : CI K d mX8_isTape [(0, a1)] c (fun c1 r2 => (r2 = 0 → Q c1 (-1)) ∧ (¬ (r2 = 0) → ir r2 ∧ ((0 ≤ a1 ∧ a1 < 6)) ∧ ((c1 (96 + 2 * a1) 1) = 0 → WI K (d + 1) mX8_judge 37 [(2, 0), (9, 0), (0, a2), (2, (96 + 2 * a1)), (0, 0)] [] c1 Q) ∧ (¬ ((c1 (96 + 2 * a1) 1) = 0) → ir (c1 (96 + 2 * a1) 1) ∧ ((c1 (96 + 2 * a1) 1) = (-1) → WI K (d + 1) mX8_judge 37 [(2, 0), (9, 0), (0, a2), (2, (96 + 2 * a1)), (0, 0)] [] c1 Q) ∧ (¬ ((c1 (96 + 2 * a1) 1) = (-1)) → ir (c1 (96 + 2 * a1) 1) ∧ Q c1 (-12)))))) : WI K (d + 1) mX8_judge 0 [(2, 0), (0, a1), (0, a2), (9, 0), (9, 0)] [] c Q := by
  refine R_iload_n (pc' := 1) dX8_judge_0 rfl rfl ?_
  refine Q_callSI (vs := [(0, a1)]) (st := []) (pc' := 4) dX8_judge_1 l_RX8_265 rfl (Nat.le_of_ble_eq_true rfl) rfl (Nat.zero_le _) (Nat.zero_le _) rfl ?_
  refine CI.mono h (fun c1 r2 h => ?_)
  by_cases hc3 : r2 = 0
  · have h := h.1 hc3
    refine R_neS_if (tgt := 9) (pc' := 7) dX8_judge_4 (by decide) hc3 rfl ?_
    refine R_iconst (pc' := 8) dX8_judge_7 rfl ?_
    exact Q_iret dX8_judge_8 rfl h
  · have h := h.2 hc3
    refine R_neD_if (tgt := 9) (pc' := 7) dX8_judge_4 (by decide) hc3 h.1 rfl ?_
    have h := h.2
    refine R_aload_n (pc' := 10) dX8_judge_9 rfl i0.1 rfl ?_
    refine Q_getfr (v := 6) (J := 11) (pc' := 13) rfl dX8_judge_10 l_RX8_37 i0 fd8_11.1 fd8_11.2.1 fd8_11.2.2.1 fd8_11.2.2.2 f0_11 rfl ?_
    refine R_iload_n (pc' := 14) dX8_judge_13 rfl rfl ?_
    have hs4 := h.1
    have h := h.2
    refine Q_aaload15 (v := (96 + 2 * a1)) (N := 6) (pc' := 15) rfl dX8_judge_14 i6 (by decide) hs4 (f6 hs4.1 hs4.2) rfl ?_
    refine R_astore_n (L' := [_, _, _, _, _]) (pc' := 16) dX8_judge_15 (tap_s (tap_at hs4.1 hs4.2)).1 (by decide) rfl rfl rfl ?_
    refine R_aload_n (pc' := 17) dX8_judge_16 rfl (tap_s (tap_at hs4.1 hs4.2)).1 rfl ?_
    refine Q_getfNi (J := 1) (pc' := 20) rfl dX8_judge_17 l_RX8_268 (tap_s (tap_at hs4.1 hs4.2)) fd7_1.1 fd7_1.2.1 fd7_1.2.2.1 rfl ?_
    by_cases hc5 : (c1 (96 + 2 * a1) 1) = 0
    · have h := h.1 hc5
      refine R_eqS_if (tgt := 34) (pc' := 23) dX8_judge_20 (by decide) hc5 rfl ?_
      refine R_iconst (pc' := 35) dX8_judge_34 rfl ?_
      refine R_istore (L' := [_, _, _, _, _]) (pc' := 37) dX8_judge_35 (by decide) rfl rfl rfl ?_
      exact WP_wk (wk_e (wk_u (wk_e (wk_e (wk_e wk_n))))) h
    · have h := h.2 hc5
      refine R_eqD_if (tgt := 34) (pc' := 23) dX8_judge_20 (by decide) hc5 h.1 rfl ?_
      have h := h.2
      refine R_aload_n (pc' := 24) dX8_judge_23 rfl (tap_s (tap_at hs4.1 hs4.2)).1 rfl ?_
      refine Q_getfNi (J := 1) (pc' := 27) rfl dX8_judge_24 l_RX8_268 (tap_s (tap_at hs4.1 hs4.2)) fd7_1.1 fd7_1.2.1 fd7_1.2.2.1 rfl ?_
      refine R_iconst (pc' := 28) dX8_judge_27 rfl ?_
      by_cases hc6 : (c1 (96 + 2 * a1) 1) = (-1)
      · have h := h.1 hc6
        refine R_eqS_ic (tgt := 34) (pc' := 31) dX8_judge_28 (by decide) hc6 rfl ?_
        refine R_iconst (pc' := 35) dX8_judge_34 rfl ?_
        refine R_istore (L' := [_, _, _, _, _]) (pc' := 37) dX8_judge_35 (by decide) rfl rfl rfl ?_
        exact WP_wk (wk_e (wk_u (wk_e (wk_e (wk_e wk_n))))) h
      · have h := h.2 hc6
        refine R_eqD_ic (tgt := 34) (pc' := 31) dX8_judge_28 (by decide) hc6 ⟨h.1, ir_l (by decide) (by decide)⟩ rfl ?_
        have h := h.2
        refine R_bipush (pc' := 33) dX8_judge_31 (by decide) rfl ?_
        exact Q_iret dX8_judge_33 rfl h
set_option maxRecDepth 100000 in
theorem s_X8_judge_37 {K : SK} {d : Nat} {c : ct} {Q : ct → Int → Prop} (a2 : Int) (a3 : Int) (ha3 : isTap a3) (a4 : Int) (h : (ir a4 ∧ ir (c 24 10)) ∧ ((c 24 10) ≤ a4 → Q c (-5)) ∧ (¬ ((c 24 10) ≤ a4) → CI K d mX7_hasPlace [(2, a3), (0, (a2 + a4))] c (fun c3 r4 => (r4 = 0 → Q c3 (100 + a4)) ∧ (¬ (r4 = 0) → ir r4 ∧ ((0 ≤ (a2 + a4) ∧ (a2 + a4) < 60)) ∧ ((0 ≤ a4 ∧ a4 < 6)) ∧ (ir (c3 27 a4)) ∧ ((c3 (a3 + 1) (a2 + a4)) = (c3 27 a4) → WI K (d + 1) mX8_judge 37 [(2, 0), (9, 0), (0, a2), (2, a3), (0, (a4 + 1))] [] c3 Q) ∧ (¬ ((c3 (a3 + 1) (a2 + a4)) = (c3 27 a4)) → (il (c3 (a3 + 1) (a2 + a4)) ∧ il (c3 27 a4)) ∧ ∀ z9 : Int, z9 = (if (c3 27 a4) < (c3 (a3 + 1) (a2 + a4)) then 1 else -1) → (z9 = 0 → WI K (d + 1) mX8_judge 37 [(2, 0), (9, 0), (0, a2), (2, a3), (0, (a4 + 1))] [] c3 Q) ∧ (¬ (z9 = 0) → ir z9 ∧ Q c3 a4)))))) : WI K (d + 1) mX8_judge 37 [(2, 0), (9, 0), (0, a2), (2, a3), (0, a4)] [] c Q := by
  refine R_iload (pc' := 39) dX8_judge_37 rfl rfl ?_
  refine R_aload_n (pc' := 40) dX8_judge_39 rfl i0.1 rfl ?_
  refine Q_getfr (v := 11) (J := 0) (pc' := 43) rfl dX8_judge_40 l_RX8_47 i0 fd8_0.1 fd8_0.2.1 fd8_0.2.2.1 fd8_0.2.2.2 f0_0 rfl ?_
  refine Q_getfNr (v := 24) (J := 0) (pc' := 46) rfl dX8_judge_43 l_RX8_75 i11 fd1_0.1 fd1_0.2.1 fd1_0.2.2.1 fd1_0.2.2.2 f11_0 rfl ?_
  refine Q_getfNi (J := 10) (pc' := 49) rfl dX8_judge_46 l_RX8_78 i24 fd6_10.1 fd6_10.2.1 fd6_10.2.2.1 rfl ?_
  have hs2 := h.1
  have h := h.2
  refine R_icmp_ge (tgt := 105) (pc' := 52) dX8_judge_49 (by decide) hs2.1 hs2.2 rfl (fun hc1 => ?_) (fun hc1 => ?_)
  · have h := h.1 hc1
    refine R_bipush (pc' := 107) dX8_judge_105 (by decide) rfl ?_
    exact Q_iret dX8_judge_107 rfl h
  · have h := h.2 hc1
    refine R_aload_n (pc' := 53) dX8_judge_52 rfl (tap_s ha3).1 rfl ?_
    refine R_iload_n (pc' := 54) dX8_judge_53 rfl rfl ?_
    refine R_iload (pc' := 56) dX8_judge_54 rfl rfl ?_
    refine R_iadd (pc' := 57) dX8_judge_56 rfl ?_
    refine Q_callVI (vs := [(0, (a2 + a4))]) (st := []) (pc' := 60) dX8_judge_57 l_RX8_271 (tap_s ha3) (by decide) rfl rfl (Nat.le_of_ble_eq_true rfl) rfl (Nat.zero_le _) (Nat.zero_le _) rfl ?_
    refine CI.mono h (fun c3 r4 h => ?_)
    by_cases hc5 : r4 = 0
    · have h := h.1 hc5
      refine R_neS_if (tgt := 69) (pc' := 63) dX8_judge_60 (by decide) hc5 rfl ?_
      refine R_bipush (pc' := 65) dX8_judge_63 (by decide) rfl ?_
      refine R_iload (pc' := 67) dX8_judge_65 rfl rfl ?_
      refine R_iadd (pc' := 68) dX8_judge_67 rfl ?_
      exact Q_iret dX8_judge_68 rfl h
    · have h := h.2 hc5
      refine R_neD_if (tgt := 69) (pc' := 63) dX8_judge_60 (by decide) hc5 h.1 rfl ?_
      have h := h.2
      refine R_aload_n (pc' := 70) dX8_judge_69 rfl (tap_s ha3).1 rfl ?_
      refine Q_getfNr (v := (a3 + 1)) (J := 0) (pc' := 73) rfl dX8_judge_70 l_RX8_274 (tap_s ha3) fd7_0.1 fd7_0.2.1 fd7_0.2.2.1 fd7_0.2.2.2 (tap_f0 ha3) rfl ?_
      refine R_iload_n (pc' := 74) dX8_judge_73 rfl rfl ?_
      refine R_iload (pc' := 76) dX8_judge_74 rfl rfl ?_
      refine R_iadd (pc' := 77) dX8_judge_76 rfl ?_
      have hs6 := h.1
      have h := h.2
      refine Q_laload (N := 60) (pc' := 78) rfl dX8_judge_77 (tap_0 ha3) (by decide) hs6 rfl ?_
      refine R_aload_n (pc' := 79) dX8_judge_78 rfl i0.1 rfl ?_
      refine Q_getfr (v := 11) (J := 0) (pc' := 82) rfl dX8_judge_79 l_RX8_47 i0 fd8_0.1 fd8_0.2.1 fd8_0.2.2.1 fd8_0.2.2.2 f0_0 rfl ?_
      refine Q_getfNr (v := 24) (J := 0) (pc' := 85) rfl dX8_judge_82 l_RX8_75 i11 fd1_0.1 fd1_0.2.1 fd1_0.2.2.1 fd1_0.2.2.2 f11_0 rfl ?_
      refine Q_getfNr (v := 27) (J := 2) (pc' := 88) rfl dX8_judge_85 l_RX8_96 i24 fd6_2.1 fd6_2.2.1 fd6_2.2.2.1 fd6_2.2.2.2 f24_2 rfl ?_
      refine R_iload (pc' := 90) dX8_judge_88 rfl rfl ?_
      have hs7 := h.1
      have h := h.2
      refine Q_iaload (N := 6) (pc' := 91) rfl dX8_judge_90 i27 (by decide) hs7 rfl ?_
      have hs8 := h.1
      have h := h.2
      refine R_i2l (pc' := 92) dX8_judge_91 hs8 rfl ?_
      by_cases hq11 : (c3 (a3 + 1) (a2 + a4)) = (c3 27 a4)
      · have h := h.1 hq11
        refine R_lcmp_eq (pc' := 93) dX8_judge_92 hq11 rfl ?_
        refine R_eqS_if (tgt := 99) (pc' := 96) dX8_judge_93 (by decide) rfl rfl ?_
        refine R_iinc (L' := [_, _, _, _, _]) (pc' := 102) dX8_judge_99 rfl (by decide) rfl rfl rfl ?_
        refine R_goto (tgt := 37) dX8_judge_102 (by decide) ?_
        exact WP_wk (wk_e (wk_u (wk_e (wk_e (wk_e wk_n))))) h
      · have h := h.2 hq11
        refine R_lcmp_ne (pc' := 93) dX8_judge_92 h.1.1 h.1.2 hq11 rfl rfl ?_
        have h := h.2 _ rfl
        generalize (if (c3 27 a4) < (c3 (a3 + 1) (a2 + a4)) then (1 : Int) else -1) = z9 at h ⊢
        by_cases hc10 : z9 = 0
        · have h := h.1 hc10
          refine R_eqS_if (tgt := 99) (pc' := 96) dX8_judge_93 (by decide) hc10 rfl ?_
          refine R_iinc (L' := [_, _, _, _, _]) (pc' := 102) dX8_judge_99 rfl (by decide) rfl rfl rfl ?_
          refine R_goto (tgt := 37) dX8_judge_102 (by decide) ?_
          exact WP_wk (wk_e (wk_u (wk_e (wk_e (wk_e wk_n))))) h
        · have h := h.2 hc10
          refine R_eqD_if (tgt := 99) (pc' := 96) dX8_judge_93 (by decide) hc10 h.1 rfl ?_
          have h := h.2
          refine R_iload (pc' := 98) dX8_judge_96 rfl rfl ?_
          exact Q_iret dX8_judge_98 rfl h
theorem e_X8_judge {K : SK} {d : Nat} {c : ct} {Q : ct → Int → Prop} (a1 : Int) (a2 : Int) (h : WI K (d + 1) mX8_judge 0 [(2, 0), (0, a1), (0, a2), (9, 0), (9, 0)] [] c Q) : CI K (d + 1) mX8_judge [(2, 0), (0, a1), (0, a2)] c Q := CM_ofS (by decide) (Nat.le_of_ble_eq_true rfl) _ rfl h
set_option maxRecDepth 100000 in
theorem s_X8_image_0 {K : SK} {d : Nat} {c : ct} {Q : ct → Int → Prop}  (h : CV K d mX1_copyFrom [(2, 35), (2, 11)] c (fun c1 => ∀ c3 : ct, c3 = up2 c1 0 2 1 → Q c3 (c3 24 10))) : WI K (d + 1) mX8_image 0 [(2, 0)] [] c Q := by
  refine R_aload_n (pc' := 1) dX8_image_0 rfl i0.1 rfl ?_
  refine Q_getfr (v := 35) (J := 1) (pc' := 4) rfl dX8_image_1 l_RX8_51 i0 fd8_1.1 fd8_1.2.1 fd8_1.2.2.1 fd8_1.2.2.2 f0_1 rfl ?_
  refine R_aload_n (pc' := 5) dX8_image_4 rfl i0.1 rfl ?_
  refine Q_getfr (v := 11) (J := 0) (pc' := 8) rfl dX8_image_5 l_RX8_47 i0 fd8_0.1 fd8_0.2.1 fd8_0.2.2.1 fd8_0.2.2.2 f0_0 rfl ?_
  refine Q_callVV (vs := [(2, 11)]) (st := []) (pc' := 11) dX8_image_8 l_RX8_278 i35 (by decide) rfl rfl (Nat.le_of_ble_eq_true rfl) rfl (Nat.zero_le _) (Nat.zero_le _) rfl ?_
  refine CV.mono h (fun c1 h => ?_)
  refine R_aload_n (pc' := 12) dX8_image_11 rfl i0.1 rfl ?_
  refine R_iconst (pc' := 13) dX8_image_12 rfl ?_
  refine Q_putfz (J := 2) (pc' := 16) rfl dX8_image_13 l_RX8_281 i0 fd8_2.1 fd8_2.2.1 fd8_2.2.2.2.1 fd8_2.2.2.2.2 (Or.inr rfl) rfl (fun c3 hc3 => ?_)
  have h := h c3 hc3
  refine R_aload_n (pc' := 17) dX8_image_16 rfl i0.1 rfl ?_
  refine Q_getfr (v := 11) (J := 0) (pc' := 20) rfl dX8_image_17 l_RX8_47 i0 fd8_0.1 fd8_0.2.1 fd8_0.2.2.1 fd8_0.2.2.2 f0_0 rfl ?_
  refine Q_getfNr (v := 24) (J := 0) (pc' := 23) rfl dX8_image_20 l_RX8_75 i11 fd1_0.1 fd1_0.2.1 fd1_0.2.2.1 fd1_0.2.2.2 f11_0 rfl ?_
  refine Q_getfNi (J := 10) (pc' := 26) rfl dX8_image_23 l_RX8_78 i24 fd6_10.1 fd6_10.2.1 fd6_10.2.2.1 rfl ?_
  exact Q_iret dX8_image_26 rfl h
theorem e_X8_image {K : SK} {d : Nat} {c : ct} {Q : ct → Int → Prop}  (h : WI K (d + 1) mX8_image 0 [(2, 0)] [] c Q) : CI K (d + 1) mX8_image [(2, 0)] c Q := CM_ofS (by decide) (Nat.le_of_ble_eq_true rfl) _ rfl h
set_option maxRecDepth 100000 in
theorem s_X8_undo_0 {K : SK} {d : Nat} {c : ct} {Q : ct → Int → Prop}  (h : ((c 0 2) = 0 → Q c (-3)) ∧ (¬ ((c 0 2) = 0) → ir (c 0 2) ∧ CV K d mX1_copyFrom [(2, 11), (2, 35)] c (fun c2 => Q c2 (c2 24 10)))) : WI K (d + 1) mX8_undo 0 [(2, 0)] [] c Q := by
  refine R_aload_n (pc' := 1) dX8_undo_0 rfl i0.1 rfl ?_
  refine Q_getfi (J := 2) (pc' := 4) rfl dX8_undo_1 l_RX8_281 i0 fd8_2.1 fd8_2.2.1 fd8_2.2.2.1 rfl ?_
  by_cases hc1 : (c 0 2) = 0
  · have h := h.1 hc1
    refine R_neS_if (tgt := 10) (pc' := 7) dX8_undo_4 (by decide) hc1 rfl ?_
    refine R_bipush (pc' := 9) dX8_undo_7 (by decide) rfl ?_
    exact Q_iret dX8_undo_9 rfl h
  · have h := h.2 hc1
    refine R_neD_if (tgt := 10) (pc' := 7) dX8_undo_4 (by decide) hc1 h.1 rfl ?_
    have h := h.2
    refine R_aload_n (pc' := 11) dX8_undo_10 rfl i0.1 rfl ?_
    refine Q_getfr (v := 11) (J := 0) (pc' := 14) rfl dX8_undo_11 l_RX8_47 i0 fd8_0.1 fd8_0.2.1 fd8_0.2.2.1 fd8_0.2.2.2 f0_0 rfl ?_
    refine R_aload_n (pc' := 15) dX8_undo_14 rfl i0.1 rfl ?_
    refine Q_getfr (v := 35) (J := 1) (pc' := 18) rfl dX8_undo_15 l_RX8_51 i0 fd8_1.1 fd8_1.2.1 fd8_1.2.2.1 fd8_1.2.2.2 f0_1 rfl ?_
    refine Q_callVV (vs := [(2, 35)]) (st := []) (pc' := 21) dX8_undo_18 l_RX8_278 i11 (by decide) rfl rfl (Nat.le_of_ble_eq_true rfl) rfl (Nat.zero_le _) (Nat.zero_le _) rfl ?_
    refine CV.mono h (fun c2 h => ?_)
    refine R_aload_n (pc' := 22) dX8_undo_21 rfl i0.1 rfl ?_
    refine Q_getfr (v := 11) (J := 0) (pc' := 25) rfl dX8_undo_22 l_RX8_47 i0 fd8_0.1 fd8_0.2.1 fd8_0.2.2.1 fd8_0.2.2.2 f0_0 rfl ?_
    refine Q_getfNr (v := 24) (J := 0) (pc' := 28) rfl dX8_undo_25 l_RX8_75 i11 fd1_0.1 fd1_0.2.1 fd1_0.2.2.1 fd1_0.2.2.2 f11_0 rfl ?_
    refine Q_getfNi (J := 10) (pc' := 31) rfl dX8_undo_28 l_RX8_78 i24 fd6_10.1 fd6_10.2.1 fd6_10.2.2.1 rfl ?_
    exact Q_iret dX8_undo_31 rfl h
theorem e_X8_undo {K : SK} {d : Nat} {c : ct} {Q : ct → Int → Prop}  (h : WI K (d + 1) mX8_undo 0 [(2, 0)] [] c Q) : CI K (d + 1) mX8_undo [(2, 0)] c Q := CM_ofS (by decide) (Nat.le_of_ble_eq_true rfl) _ rfl h
set_option maxRecDepth 100000 in
theorem s_X8_act_0 {K : SK} {d : Nat} {c : ct} {Q : ct → Int → Prop} (a1 : Int) (a2 : Int) (a3 : Int) (h : CI K d mX8_isGuest [(2, 0), (0, a1)] c (fun c1 r2 => (r2 = 0 → CV K d mX0_forget [(2, 4)] c1 (fun c4 => Q c4 0)) ∧ (¬ (r2 = 0) → ir r2 ∧ (ir a2) ∧ (a2 < 0 → CV K d mX0_forget [(2, 4)] c1 (fun c8 => Q c8 0)) ∧ (¬ (a2 < 0) → (ir a2) ∧ (a2 < 3 → ((0 ≤ a1 ∧ a1 < 6)) ∧ ((0 ≤ a1 ∧ a1 < 6)) ∧ CI K d mX0_begin [(2, 4), (0, (c1 25 a1)), (0, (c1 26 a1)), (0, a1), (0, a2), (0, a3)] c1 (fun c14 r15 => Q c14 r15)) ∧ (¬ (a2 < 3) → CV K d mX0_forget [(2, 4)] c1 (fun c16 => Q c16 0)))))) : WI K (d + 1) mX8_act 0 [(2, 0), (0, a1), (0, a2), (0, a3)] [] c Q := by
  refine R_aload_n (pc' := 1) dX8_act_0 rfl i0.1 rfl ?_
  refine R_iload_n (pc' := 2) dX8_act_1 rfl rfl ?_
  refine Q_callVI (vs := [(0, a1)]) (st := []) (pc' := 5) dX8_act_2 l_RX8_86 i0 (by decide) rfl rfl (Nat.le_of_ble_eq_true rfl) rfl (Nat.zero_le _) (Nat.zero_le _) rfl ?_
  refine CI.mono h (fun c1 r2 h => ?_)
  by_cases hc3 : r2 = 0
  · have h := h.1 hc3
    refine R_eqS_if (tgt := 17) (pc' := 8) dX8_act_5 (by decide) hc3 rfl ?_
    refine R_aload_n (pc' := 18) dX8_act_17 rfl i0.1 rfl ?_
    refine Q_getfr (v := 4) (J := 10) (pc' := 21) rfl dX8_act_18 l_RX8_31 i0 fd8_10.1 fd8_10.2.1 fd8_10.2.2.1 fd8_10.2.2.2 f0_10 rfl ?_
    refine Q_callVV (vs := []) (st := []) (pc' := 24) dX8_act_21 l_RX8_285 i4 (by decide) rfl rfl (Nat.le_of_ble_eq_true rfl) rfl (Nat.zero_le _) (Nat.zero_le _) rfl ?_
    refine CV.mono h (fun c4 h => ?_)
    refine R_iconst (pc' := 25) dX8_act_24 rfl ?_
    exact Q_iret dX8_act_25 rfl h
  · have h := h.2 hc3
    refine R_eqD_if (tgt := 17) (pc' := 8) dX8_act_5 (by decide) hc3 h.1 rfl ?_
    have h := h.2
    refine R_iload_n (pc' := 9) dX8_act_8 rfl rfl ?_
    have hs7 := h.1
    have h := h.2
    refine R_if_lt (tgt := 17) (pc' := 12) dX8_act_9 (by decide) hs7  rfl (fun hc6 => ?_) (fun hc6 => ?_)
    · have h := h.1 hc6
      refine R_aload_n (pc' := 18) dX8_act_17 rfl i0.1 rfl ?_
      refine Q_getfr (v := 4) (J := 10) (pc' := 21) rfl dX8_act_18 l_RX8_31 i0 fd8_10.1 fd8_10.2.1 fd8_10.2.2.1 fd8_10.2.2.2 f0_10 rfl ?_
      refine Q_callVV (vs := []) (st := []) (pc' := 24) dX8_act_21 l_RX8_285 i4 (by decide) rfl rfl (Nat.le_of_ble_eq_true rfl) rfl (Nat.zero_le _) (Nat.zero_le _) rfl ?_
      refine CV.mono h (fun c8 h => ?_)
      refine R_iconst (pc' := 25) dX8_act_24 rfl ?_
      exact Q_iret dX8_act_25 rfl h
    · have h := h.2 hc6
      refine R_iload_n (pc' := 13) dX8_act_12 rfl rfl ?_
      refine R_iconst (pc' := 14) dX8_act_13 rfl ?_
      have hs11 := h.1
      have h := h.2
      refine R_icmp_lt (tgt := 26) (pc' := 17) dX8_act_14 (by decide) hs11 (ir_l (by decide) (by decide)) rfl (fun hc10 => ?_) (fun hc10 => ?_)
      · have h := h.1 hc10
        refine R_aload_n (pc' := 27) dX8_act_26 rfl i0.1 rfl ?_
        refine Q_getfr (v := 4) (J := 10) (pc' := 30) rfl dX8_act_27 l_RX8_31 i0 fd8_10.1 fd8_10.2.1 fd8_10.2.2.1 fd8_10.2.2.2 f0_10 rfl ?_
        refine R_aload_n (pc' := 31) dX8_act_30 rfl i0.1 rfl ?_
        refine Q_getfr (v := 11) (J := 0) (pc' := 34) rfl dX8_act_31 l_RX8_47 i0 fd8_0.1 fd8_0.2.1 fd8_0.2.2.1 fd8_0.2.2.2 f0_0 rfl ?_
        refine Q_getfNr (v := 24) (J := 0) (pc' := 37) rfl dX8_act_34 l_RX8_75 i11 fd1_0.1 fd1_0.2.1 fd1_0.2.2.1 fd1_0.2.2.2 f11_0 rfl ?_
        refine Q_getfNr (v := 25) (J := 0) (pc' := 40) rfl dX8_act_37 l_RX8_89 i24 fd6_0.1 fd6_0.2.1 fd6_0.2.2.1 fd6_0.2.2.2 f24_0 rfl ?_
        refine R_iload_n (pc' := 41) dX8_act_40 rfl rfl ?_
        have hs12 := h.1
        have h := h.2
        refine Q_iaload (N := 6) (pc' := 42) rfl dX8_act_41 i25 (by decide) hs12 rfl ?_
        refine R_aload_n (pc' := 43) dX8_act_42 rfl i0.1 rfl ?_
        refine Q_getfr (v := 11) (J := 0) (pc' := 46) rfl dX8_act_43 l_RX8_47 i0 fd8_0.1 fd8_0.2.1 fd8_0.2.2.1 fd8_0.2.2.2 f0_0 rfl ?_
        refine Q_getfNr (v := 24) (J := 0) (pc' := 49) rfl dX8_act_46 l_RX8_75 i11 fd1_0.1 fd1_0.2.1 fd1_0.2.2.1 fd1_0.2.2.2 f11_0 rfl ?_
        refine Q_getfNr (v := 26) (J := 1) (pc' := 52) rfl dX8_act_49 l_RX8_93 i24 fd6_1.1 fd6_1.2.1 fd6_1.2.2.1 fd6_1.2.2.2 f24_1 rfl ?_
        refine R_iload_n (pc' := 53) dX8_act_52 rfl rfl ?_
        have hs13 := h.1
        have h := h.2
        refine Q_iaload (N := 6) (pc' := 54) rfl dX8_act_53 i26 (by decide) hs13 rfl ?_
        refine R_iload_n (pc' := 55) dX8_act_54 rfl rfl ?_
        refine R_iload_n (pc' := 56) dX8_act_55 rfl rfl ?_
        refine R_iload_n (pc' := 57) dX8_act_56 rfl rfl ?_
        refine Q_callVI (vs := [(0, (c1 25 a1)), (0, (c1 26 a1)), (0, a1), (0, a2), (0, a3)]) (st := []) (pc' := 60) dX8_act_57 l_RX8_288 i4 (by decide) rfl rfl (Nat.le_of_ble_eq_true rfl) rfl (Nat.zero_le _) (Nat.zero_le _) rfl ?_
        refine CI.mono h (fun c14 r15 h => ?_)
        exact Q_iret dX8_act_60 rfl h
      · have h := h.2 hc10
        refine R_aload_n (pc' := 18) dX8_act_17 rfl i0.1 rfl ?_
        refine Q_getfr (v := 4) (J := 10) (pc' := 21) rfl dX8_act_18 l_RX8_31 i0 fd8_10.1 fd8_10.2.1 fd8_10.2.2.1 fd8_10.2.2.2 f0_10 rfl ?_
        refine Q_callVV (vs := []) (st := []) (pc' := 24) dX8_act_21 l_RX8_285 i4 (by decide) rfl rfl (Nat.le_of_ble_eq_true rfl) rfl (Nat.zero_le _) (Nat.zero_le _) rfl ?_
        refine CV.mono h (fun c16 h => ?_)
        refine R_iconst (pc' := 25) dX8_act_24 rfl ?_
        exact Q_iret dX8_act_25 rfl h
theorem e_X8_act {K : SK} {d : Nat} {c : ct} {Q : ct → Int → Prop} (a1 : Int) (a2 : Int) (a3 : Int) (h : WI K (d + 1) mX8_act 0 [(2, 0), (0, a1), (0, a2), (0, a3)] [] c Q) : CI K (d + 1) mX8_act [(2, 0), (0, a1), (0, a2), (0, a3)] c Q := CM_ofS (by decide) (Nat.le_of_ble_eq_true rfl) _ rfl h
set_option maxRecDepth 100000 in
theorem s_X8_trace_0 {K : SK} {d : Nat} {c : ct} {Q : ct → Int → Prop} (a1 : Int) (h : (ir a1) ∧ (a1 < 0 → Q c (-1)) ∧ (¬ (a1 < 0) → CI K d mX0_kept [(2, 4)] c (fun c3 r4 => (ir a1 ∧ ir r4) ∧ (a1 < r4 → ((0 ≤ a1 ∧ a1 < 20)) ∧ Q c3 (c3 5 a1)) ∧ (¬ (a1 < r4) → Q c3 (-1))))) : WI K (d + 1) mX8_trace 0 [(2, 0), (0, a1)] [] c Q := by
  refine R_iload_n (pc' := 1) dX8_trace_0 rfl rfl ?_
  have hs2 := h.1
  have h := h.2
  refine R_if_lt (tgt := 15) (pc' := 4) dX8_trace_1 (by decide) hs2  rfl (fun hc1 => ?_) (fun hc1 => ?_)
  · have h := h.1 hc1
    refine R_iconst (pc' := 16) dX8_trace_15 rfl ?_
    refine R_goto (tgt := 28) dX8_trace_16 (by decide) ?_
    exact Q_iret dX8_trace_28 rfl h
  · have h := h.2 hc1
    refine R_iload_n (pc' := 5) dX8_trace_4 rfl rfl ?_
    refine R_aload_n (pc' := 6) dX8_trace_5 rfl i0.1 rfl ?_
    refine Q_getfr (v := 4) (J := 10) (pc' := 9) rfl dX8_trace_6 l_RX8_31 i0 fd8_10.1 fd8_10.2.1 fd8_10.2.2.1 fd8_10.2.2.2 f0_10 rfl ?_
    refine Q_callVI (vs := []) (st := [(0, a1)]) (pc' := 12) dX8_trace_9 l_RX8_292 i4 (by decide) rfl rfl (Nat.le_of_ble_eq_true rfl) rfl (Nat.zero_le _) (Nat.zero_le _) rfl ?_
    refine CI.mono h (fun c3 r4 h => ?_)
    have hs6 := h.1
    have h := h.2
    refine R_icmp_lt (tgt := 19) (pc' := 15) dX8_trace_12 (by decide) hs6.1 hs6.2 rfl (fun hc5 => ?_) (fun hc5 => ?_)
    · have h := h.1 hc5
      refine R_aload_n (pc' := 20) dX8_trace_19 rfl i0.1 rfl ?_
      refine Q_getfr (v := 4) (J := 10) (pc' := 23) rfl dX8_trace_20 l_RX8_31 i0 fd8_10.1 fd8_10.2.1 fd8_10.2.2.1 fd8_10.2.2.2 f0_10 rfl ?_
      refine Q_getfNr (v := 5) (J := 0) (pc' := 26) rfl dX8_trace_23 l_RX8_295 i4 fd0_0.1 fd0_0.2.1 fd0_0.2.2.1 fd0_0.2.2.2 f4_0 rfl ?_
      refine R_iload_n (pc' := 27) dX8_trace_26 rfl rfl ?_
      have hs7 := h.1
      have h := h.2
      refine Q_iaload (N := 20) (pc' := 28) rfl dX8_trace_27 i5 (by decide) hs7 rfl ?_
      exact Q_iret dX8_trace_28 rfl h
    · have h := h.2 hc5
      refine R_iconst (pc' := 16) dX8_trace_15 rfl ?_
      refine R_goto (tgt := 28) dX8_trace_16 (by decide) ?_
      exact Q_iret dX8_trace_28 rfl h
theorem e_X8_trace {K : SK} {d : Nat} {c : ct} {Q : ct → Int → Prop} (a1 : Int) (h : WI K (d + 1) mX8_trace 0 [(2, 0), (0, a1)] [] c Q) : CI K (d + 1) mX8_trace [(2, 0), (0, a1)] c Q := CM_ofS (by decide) (Nat.le_of_ble_eq_true rfl) _ rfl h
set_option maxRecDepth 100000 in
theorem s_X8_taken_0 {K : SK} {d : Nat} {c : ct} {Q : ct → Int → Prop} (a1 : Int) (a2 : Int) (h : (ir a2) ∧ (a2 < 0 → Q c (-2)) ∧ (¬ (a2 < 0) → (ir a2) ∧ (a2 < 7 → CI K d mX8_isGuest [(2, 0), (0, a1)] c (fun c5 r6 => (r6 = 0 → Q c5 (-11)) ∧ (¬ (r6 = 0) → ir r6 ∧ ((0 ≤ a1 ∧ a1 < 6)) ∧ WI K (d + 1) mX8_taken 43 [(9, 0), (9, 0), (0, a2), (0, (c5 25 a1)), (0, (c5 25 a1)), (0, 0)] [] c5 Q))) ∧ (¬ (a2 < 7) → Q c (-2)))) : WI K (d + 1) mX8_taken 0 [(2, 0), (0, a1), (0, a2), (9, 0), (9, 0), (9, 0)] [] c Q := by
  refine R_iload_n (pc' := 1) dX8_taken_0 rfl rfl ?_
  have hs2 := h.1
  have h := h.2
  refine R_if_lt (tgt := 10) (pc' := 4) dX8_taken_1 (by decide) hs2  rfl (fun hc1 => ?_) (fun hc1 => ?_)
  · have h := h.1 hc1
    refine R_bipush (pc' := 12) dX8_taken_10 (by decide) rfl ?_
    exact Q_iret dX8_taken_12 rfl h
  · have h := h.2 hc1
    refine R_iload_n (pc' := 5) dX8_taken_4 rfl rfl ?_
    refine R_bipush (pc' := 7) dX8_taken_5 (by decide) rfl ?_
    have hs4 := h.1
    have h := h.2
    refine R_icmp_lt (tgt := 13) (pc' := 10) dX8_taken_7 (by decide) hs4 (ir_l (by decide) (by decide)) rfl (fun hc3 => ?_) (fun hc3 => ?_)
    · have h := h.1 hc3
      refine R_aload_n (pc' := 14) dX8_taken_13 rfl i0.1 rfl ?_
      refine R_iload_n (pc' := 15) dX8_taken_14 rfl rfl ?_
      refine Q_callVI (vs := [(0, a1)]) (st := []) (pc' := 18) dX8_taken_15 l_RX8_86 i0 (by decide) rfl rfl (Nat.le_of_ble_eq_true rfl) rfl (Nat.zero_le _) (Nat.zero_le _) rfl ?_
      refine CI.mono h (fun c5 r6 h => ?_)
      by_cases hc7 : r6 = 0
      · have h := h.1 hc7
        refine R_neS_if (tgt := 24) (pc' := 21) dX8_taken_18 (by decide) hc7 rfl ?_
        refine R_bipush (pc' := 23) dX8_taken_21 (by decide) rfl ?_
        exact Q_iret dX8_taken_23 rfl h
      · have h := h.2 hc7
        refine R_neD_if (tgt := 24) (pc' := 21) dX8_taken_18 (by decide) hc7 h.1 rfl ?_
        have h := h.2
        refine R_aload_n (pc' := 25) dX8_taken_24 rfl i0.1 rfl ?_
        refine Q_getfr (v := 11) (J := 0) (pc' := 28) rfl dX8_taken_25 l_RX8_47 i0 fd8_0.1 fd8_0.2.1 fd8_0.2.2.1 fd8_0.2.2.2 f0_0 rfl ?_
        refine Q_getfNr (v := 24) (J := 0) (pc' := 31) rfl dX8_taken_28 l_RX8_75 i11 fd1_0.1 fd1_0.2.1 fd1_0.2.2.1 fd1_0.2.2.2 f11_0 rfl ?_
        refine Q_getfNr (v := 25) (J := 0) (pc' := 34) rfl dX8_taken_31 l_RX8_89 i24 fd6_0.1 fd6_0.2.1 fd6_0.2.2.1 fd6_0.2.2.2 f24_0 rfl ?_
        refine R_iload_n (pc' := 35) dX8_taken_34 rfl rfl ?_
        have hs8 := h.1
        have h := h.2
        refine Q_iaload (N := 6) (pc' := 36) rfl dX8_taken_35 i25 (by decide) hs8 rfl ?_
        refine R_istore_n (L' := [_, _, _, _, _, _]) (pc' := 37) dX8_taken_36 (by decide) rfl rfl rfl ?_
        refine R_iload_n (pc' := 38) dX8_taken_37 rfl rfl ?_
        refine R_istore (L' := [_, _, _, _, _, _]) (pc' := 40) dX8_taken_38 (by decide) rfl rfl rfl ?_
        refine R_iconst (pc' := 41) dX8_taken_40 rfl ?_
        refine R_istore (L' := [_, _, _, _, _, _]) (pc' := 43) dX8_taken_41 (by decide) rfl rfl rfl ?_
        exact WP_wk (wk_u (wk_u (wk_e (wk_e (wk_e (wk_e wk_n)))))) h
    · have h := h.2 hc3
      refine R_bipush (pc' := 12) dX8_taken_10 (by decide) rfl ?_
      exact Q_iret dX8_taken_12 rfl h
set_option maxRecDepth 100000 in
theorem s_X8_taken_43 {K : SK} {d : Nat} {c : ct} {Q : ct → Int → Prop} (a2 : Int) (a3 : Int) (a4 : Int) (a5 : Int) (h : (ir a5) ∧ (7 ≤ a5 → Q c (-12)) ∧ (¬ (7 ≤ a5) → (ir a4) ∧ (a4 < 0 → Q c (-12)) ∧ (¬ (a4 < 0) → (a4 = a2 → Q c a3) ∧ (¬ (a4 = a2) → (ir a4 ∧ ir a2) ∧ ((0 ≤ a4 ∧ a4 < 7)) ∧ WI K (d + 1) mX8_taken 43 [(9, 0), (9, 0), (0, a2), (0, a3), (0, (roC K 5 (Int.toNat a4))), (0, (a5 + 1))] [] c Q)))) : WI K (d + 1) mX8_taken 43 [(9, 0), (9, 0), (0, a2), (0, a3), (0, a4), (0, a5)] [] c Q := by
  refine R_iload (pc' := 45) dX8_taken_43 rfl rfl ?_
  refine R_bipush (pc' := 47) dX8_taken_45 (by decide) rfl ?_
  have hs2 := h.1
  have h := h.2
  refine R_icmp_ge (tgt := 77) (pc' := 50) dX8_taken_47 (by decide) hs2 (ir_l (by decide) (by decide)) rfl (fun hc1 => ?_) (fun hc1 => ?_)
  · have h := h.1 hc1
    refine R_bipush (pc' := 79) dX8_taken_77 (by decide) rfl ?_
    exact Q_iret dX8_taken_79 rfl h
  · have h := h.2 hc1
    refine R_iload (pc' := 52) dX8_taken_50 rfl rfl ?_
    have hs4 := h.1
    have h := h.2
    refine R_if_lt (tgt := 77) (pc' := 55) dX8_taken_52 (by decide) hs4  rfl (fun hc3 => ?_) (fun hc3 => ?_)
    · have h := h.1 hc3
      refine R_bipush (pc' := 79) dX8_taken_77 (by decide) rfl ?_
      exact Q_iret dX8_taken_79 rfl h
    · have h := h.2 hc3
      refine R_iload (pc' := 57) dX8_taken_55 rfl rfl ?_
      refine R_iload_n (pc' := 58) dX8_taken_57 rfl rfl ?_
      by_cases hc5 : a4 = a2
      · have h := h.1 hc5
        refine R_neS_ic (tgt := 63) (pc' := 61) dX8_taken_58 (by decide) hc5 rfl ?_
        refine R_iload_n (pc' := 62) dX8_taken_61 rfl rfl ?_
        exact Q_iret dX8_taken_62 rfl h
      · have h := h.2 hc5
        refine R_neD_ic (tgt := 63) (pc' := 61) dX8_taken_58 (by decide) hc5 h.1 rfl ?_
        have h := h.2
        refine R_gets (i := 5) (pc' := 66) dX8_taken_63 l_RX8_298 (by decide) (by decide) rfl ?_
        refine R_iload (pc' := 68) dX8_taken_66 rfl rfl ?_
        have hs6 := h.1
        have h := h.2
        refine Q_roload (i := 5) (N := 7) (pc' := 69) rfl dX8_taken_68 (by decide) hs6 rfl ?_
        refine R_istore (L' := [_, _, _, _, _, _]) (pc' := 71) dX8_taken_69 (by decide) rfl rfl rfl ?_
        refine R_iinc (L' := [_, _, _, _, _, _]) (pc' := 74) dX8_taken_71 rfl (by decide) rfl rfl rfl ?_
        refine R_goto (tgt := 43) dX8_taken_74 (by decide) ?_
        exact WP_wk (wk_u (wk_u (wk_e (wk_e (wk_e (wk_e wk_n)))))) h
theorem e_X8_taken {K : SK} {d : Nat} {c : ct} {Q : ct → Int → Prop} (a1 : Int) (a2 : Int) (h : WI K (d + 1) mX8_taken 0 [(2, 0), (0, a1), (0, a2), (9, 0), (9, 0), (9, 0)] [] c Q) : CI K (d + 1) mX8_taken [(2, 0), (0, a1), (0, a2)] c Q := CM_ofS (by decide) (Nat.le_of_ble_eq_true rfl) _ rfl h
set_option maxRecDepth 100000 in
theorem s_X8_count_0 {K : SK} {d : Nat} {c : ct} {Q : ct → Int → Prop} (a1 : Int) (h : ir a1 ∧ (a1 = 0 → Q c (c 24 10)) ∧ (a1 = 1 → Q c (c 0 7)) ∧ (a1 = 2 → Q c (c 12 4)) ∧ (a1 = 3 → Q c (c 16 4)) ∧ (a1 = 4 → Q c (c 20 4)) ∧ (a1 = 5 → Q c (c 0 5)) ∧ (a1 = 6 → Q c (c 4 1)) ∧ ((a1 < 0 ∨ 6 < a1) → Q c (-2))) : WI K (d + 1) mX8_count 0 [(2, 0), (0, a1)] [] c Q := by
  refine R_iload_n (pc' := 1) dX8_count_0 rfl rfl ?_
  have hs0 := h.1
  have h := h.2
  rcases (show a1 = 0 ∨ a1 = 1 ∨ a1 = 2 ∨ a1 = 3 ∨ a1 = 4 ∨ a1 = 5 ∨ a1 = 6 ∨ (a1 < 0 ∨ 6 < a1) by omega) with hk | hk | hk | hk | hk | hk | hk | hk
  · have h := h.1 hk
    refine R_tableAt (tgt := 44) 0 hk dX8_count_1 (ir_l (by decide) (by decide)) (by decide) rfl (by decide) ?_
    refine R_aload_n (pc' := 45) dX8_count_44 rfl i0.1 rfl ?_
    refine Q_getfr (v := 11) (J := 0) (pc' := 48) rfl dX8_count_45 l_RX8_47 i0 fd8_0.1 fd8_0.2.1 fd8_0.2.2.1 fd8_0.2.2.2 f0_0 rfl ?_
    refine Q_getfNr (v := 24) (J := 0) (pc' := 51) rfl dX8_count_48 l_RX8_75 i11 fd1_0.1 fd1_0.2.1 fd1_0.2.2.1 fd1_0.2.2.2 f11_0 rfl ?_
    refine Q_getfNi (J := 10) (pc' := 54) rfl dX8_count_51 l_RX8_78 i24 fd6_10.1 fd6_10.2.1 fd6_10.2.2.1 rfl ?_
    exact Q_iret dX8_count_54 rfl h
  · have h := h.2.1 hk
    refine R_tableAt (tgt := 55) 1 hk dX8_count_1 (ir_l (by decide) (by decide)) (by decide) rfl (by decide) ?_
    refine R_aload_n (pc' := 56) dX8_count_55 rfl i0.1 rfl ?_
    refine Q_getfi (J := 7) (pc' := 59) rfl dX8_count_56 l_RX8_149 i0 fd8_7.1 fd8_7.2.1 fd8_7.2.2.1 rfl ?_
    exact Q_iret dX8_count_59 rfl h
  · have h := h.2.2.1 hk
    refine R_tableAt (tgt := 60) 2 hk dX8_count_1 (ir_l (by decide) (by decide)) (by decide) rfl (by decide) ?_
    refine R_aload_n (pc' := 61) dX8_count_60 rfl i0.1 rfl ?_
    refine Q_getfr (v := 11) (J := 0) (pc' := 64) rfl dX8_count_61 l_RX8_47 i0 fd8_0.1 fd8_0.2.1 fd8_0.2.2.1 fd8_0.2.2.2 f0_0 rfl ?_
    refine Q_getfNr (v := 12) (J := 1) (pc' := 67) rfl dX8_count_64 l_RX8_215 i11 fd1_1.1 fd1_1.2.1 fd1_1.2.2.1 fd1_1.2.2.2 f11_1 rfl ?_
    refine Q_getfNi (J := 4) (pc' := 70) rfl dX8_count_67 l_RX8_240 i12 fd5_4.1 fd5_4.2.1 fd5_4.2.2.1 rfl ?_
    exact Q_iret dX8_count_70 rfl h
  · have h := h.2.2.2.1 hk
    refine R_tableAt (tgt := 71) 3 hk dX8_count_1 (ir_l (by decide) (by decide)) (by decide) rfl (by decide) ?_
    refine R_aload_n (pc' := 72) dX8_count_71 rfl i0.1 rfl ?_
    refine Q_getfr (v := 11) (J := 0) (pc' := 75) rfl dX8_count_72 l_RX8_47 i0 fd8_0.1 fd8_0.2.1 fd8_0.2.2.1 fd8_0.2.2.2 f0_0 rfl ?_
    refine Q_getfNr (v := 16) (J := 2) (pc' := 78) rfl dX8_count_75 l_RX8_256 i11 fd1_2.1 fd1_2.2.1 fd1_2.2.2.1 fd1_2.2.2.2 f11_2 rfl ?_
    refine Q_getfNi (J := 4) (pc' := 81) rfl dX8_count_78 l_RX8_240 i16 fd5_4.1 fd5_4.2.1 fd5_4.2.2.1 rfl ?_
    exact Q_iret dX8_count_81 rfl h
  · have h := h.2.2.2.2.1 hk
    refine R_tableAt (tgt := 82) 4 hk dX8_count_1 (ir_l (by decide) (by decide)) (by decide) rfl (by decide) ?_
    refine R_aload_n (pc' := 83) dX8_count_82 rfl i0.1 rfl ?_
    refine Q_getfr (v := 11) (J := 0) (pc' := 86) rfl dX8_count_83 l_RX8_47 i0 fd8_0.1 fd8_0.2.1 fd8_0.2.2.1 fd8_0.2.2.2 f0_0 rfl ?_
    refine Q_getfNr (v := 20) (J := 3) (pc' := 89) rfl dX8_count_86 l_RX8_262 i11 fd1_3.1 fd1_3.2.1 fd1_3.2.2.1 fd1_3.2.2.2 f11_3 rfl ?_
    refine Q_getfNi (J := 4) (pc' := 92) rfl dX8_count_89 l_RX8_240 i20 fd5_4.1 fd5_4.2.1 fd5_4.2.2.1 rfl ?_
    exact Q_iret dX8_count_92 rfl h
  · have h := h.2.2.2.2.2.1 hk
    refine R_tableAt (tgt := 93) 5 hk dX8_count_1 (ir_l (by decide) (by decide)) (by decide) rfl (by decide) ?_
    refine R_aload_n (pc' := 94) dX8_count_93 rfl i0.1 rfl ?_
    refine Q_getfi (J := 5) (pc' := 97) rfl dX8_count_94 l_RX8_146 i0 fd8_5.1 fd8_5.2.1 fd8_5.2.2.1 rfl ?_
    exact Q_iret dX8_count_97 rfl h
  · have h := h.2.2.2.2.2.2.1 hk
    refine R_tableAt (tgt := 98) 6 hk dX8_count_1 (ir_l (by decide) (by decide)) (by decide) rfl (by decide) ?_
    refine R_aload_n (pc' := 99) dX8_count_98 rfl i0.1 rfl ?_
    refine Q_getfr (v := 4) (J := 10) (pc' := 102) rfl dX8_count_99 l_RX8_31 i0 fd8_10.1 fd8_10.2.1 fd8_10.2.2.1 fd8_10.2.2.2 f0_10 rfl ?_
    refine Q_getfNi (J := 1) (pc' := 105) rfl dX8_count_102 l_RX8_301 i4 fd0_1.1 fd0_1.2.1 fd0_1.2.2.1 rfl ?_
    exact Q_iret dX8_count_105 rfl h
  · have h := h.2.2.2.2.2.2.2 hk
    refine R_tableOut (tgt := 106) dX8_count_1 hs0 hk (by decide) ?_
    refine R_bipush (pc' := 108) dX8_count_106 (by decide) rfl ?_
    exact Q_iret dX8_count_108 rfl h
theorem e_X8_count {K : SK} {d : Nat} {c : ct} {Q : ct → Int → Prop} (a1 : Int) (h : WI K (d + 1) mX8_count 0 [(2, 0), (0, a1)] [] c Q) : CI K (d + 1) mX8_count [(2, 0), (0, a1)] c Q := CM_ofS (by decide) (Nat.le_of_ble_eq_true rfl) _ rfl h
set_option maxRecDepth 100000 in
theorem s_X8_tape_0 {K : SK} {d : Nat} {c : ct} {Q : ct → Int → Prop} (a1 : Int) (a2 : Int) (a3 : Int) (h : CI K d mX8_isTape [(0, a1)] c (fun c1 r2 => (r2 = 0 → Q c1 (-1)) ∧ (¬ (r2 = 0) → ir r2 ∧ (a2 = (-1) → ((0 ≤ a1 ∧ a1 < 6)) ∧ CV K d mX7_become [(2, (96 + 2 * a1)), (0, (-1)), (0, 0)] c1 (fun c6 => Q c6 1)) ∧ (¬ (a2 = (-1)) → ir a2 ∧ (ir a2) ∧ (a2 < 0 → Q c1 (-2)) ∧ (¬ (a2 < 0) → (ir a2) ∧ (4 < a2 → Q c1 (-2)) ∧ (¬ (4 < a2) → (ir a3) ∧ (a3 ≤ 60 → (ir a3) ∧ (0 ≤ a3 → ((0 ≤ a1 ∧ a1 < 6)) ∧ CV K d mX7_become [(2, (96 + 2 * a1)), (0, a2), (0, a3)] c1 (fun c17 => Q c17 1)) ∧ (¬ (0 ≤ a3) → Q c1 (-14))) ∧ (¬ (a3 ≤ 60) → Q c1 (-2)))))))) : WI K (d + 1) mX8_tape 0 [(2, 0), (0, a1), (0, a2), (0, a3)] [] c Q := by
  refine R_iload_n (pc' := 1) dX8_tape_0 rfl rfl ?_
  refine Q_callSI (vs := [(0, a1)]) (st := []) (pc' := 4) dX8_tape_1 l_RX8_265 rfl (Nat.le_of_ble_eq_true rfl) rfl (Nat.zero_le _) (Nat.zero_le _) rfl ?_
  refine CI.mono h (fun c1 r2 h => ?_)
  by_cases hc3 : r2 = 0
  · have h := h.1 hc3
    refine R_neS_if (tgt := 9) (pc' := 7) dX8_tape_4 (by decide) hc3 rfl ?_
    refine R_iconst (pc' := 8) dX8_tape_7 rfl ?_
    exact Q_iret dX8_tape_8 rfl h
  · have h := h.2 hc3
    refine R_neD_if (tgt := 9) (pc' := 7) dX8_tape_4 (by decide) hc3 h.1 rfl ?_
    have h := h.2
    refine R_iload_n (pc' := 10) dX8_tape_9 rfl rfl ?_
    refine R_iconst (pc' := 11) dX8_tape_10 rfl ?_
    by_cases hc4 : a2 = (-1)
    · have h := h.1 hc4
      refine R_neS_ic (tgt := 27) (pc' := 14) dX8_tape_11 (by decide) hc4 rfl ?_
      refine R_aload_n (pc' := 15) dX8_tape_14 rfl i0.1 rfl ?_
      refine Q_getfr (v := 6) (J := 11) (pc' := 18) rfl dX8_tape_15 l_RX8_37 i0 fd8_11.1 fd8_11.2.1 fd8_11.2.2.1 fd8_11.2.2.2 f0_11 rfl ?_
      refine R_iload_n (pc' := 19) dX8_tape_18 rfl rfl ?_
      have hs5 := h.1
      have h := h.2
      refine Q_aaload15 (v := (96 + 2 * a1)) (N := 6) (pc' := 20) rfl dX8_tape_19 i6 (by decide) hs5 (f6 hs5.1 hs5.2) rfl ?_
      refine R_iconst (pc' := 21) dX8_tape_20 rfl ?_
      refine R_iconst (pc' := 22) dX8_tape_21 rfl ?_
      refine Q_callVV (vs := [(0, (-1)), (0, 0)]) (st := []) (pc' := 25) dX8_tape_22 l_RX8_304 (tap_s (tap_at hs5.1 hs5.2)) (by decide) rfl rfl (Nat.le_of_ble_eq_true rfl) rfl (Nat.zero_le _) (Nat.zero_le _) rfl ?_
      refine CV.mono h (fun c6 h => ?_)
      refine R_iconst (pc' := 26) dX8_tape_25 rfl ?_
      exact Q_iret dX8_tape_26 rfl h
    · have h := h.2 hc4
      refine R_neD_ic (tgt := 27) (pc' := 14) dX8_tape_11 (by decide) hc4 ⟨h.1, ir_l (by decide) (by decide)⟩ rfl ?_
      have h := h.2
      refine R_iload_n (pc' := 28) dX8_tape_27 rfl rfl ?_
      have hs9 := h.1
      have h := h.2
      refine R_if_lt (tgt := 42) (pc' := 31) dX8_tape_28 (by decide) hs9  rfl (fun hc8 => ?_) (fun hc8 => ?_)
      · have h := h.1 hc8
        refine R_bipush (pc' := 44) dX8_tape_42 (by decide) rfl ?_
        exact Q_iret dX8_tape_44 rfl h
      · have h := h.2 hc8
        refine R_iload_n (pc' := 32) dX8_tape_31 rfl rfl ?_
        refine R_iconst (pc' := 33) dX8_tape_32 rfl ?_
        have hs11 := h.1
        have h := h.2
        refine R_icmp_gt (tgt := 42) (pc' := 36) dX8_tape_33 (by decide) hs11 (ir_l (by decide) (by decide)) rfl (fun hc10 => ?_) (fun hc10 => ?_)
        · have h := h.1 hc10
          refine R_bipush (pc' := 44) dX8_tape_42 (by decide) rfl ?_
          exact Q_iret dX8_tape_44 rfl h
        · have h := h.2 hc10
          refine R_iload_n (pc' := 37) dX8_tape_36 rfl rfl ?_
          refine R_bipush (pc' := 39) dX8_tape_37 (by decide) rfl ?_
          have hs13 := h.1
          have h := h.2
          refine R_icmp_le (tgt := 45) (pc' := 42) dX8_tape_39 (by decide) hs13 (ir_l (by decide) (by decide)) rfl (fun hc12 => ?_) (fun hc12 => ?_)
          · have h := h.1 hc12
            refine R_iload_n (pc' := 46) dX8_tape_45 rfl rfl ?_
            have hs15 := h.1
            have h := h.2
            refine R_if_ge (tgt := 52) (pc' := 49) dX8_tape_46 (by decide) hs15  rfl (fun hc14 => ?_) (fun hc14 => ?_)
            · have h := h.1 hc14
              refine R_aload_n (pc' := 53) dX8_tape_52 rfl i0.1 rfl ?_
              refine Q_getfr (v := 6) (J := 11) (pc' := 56) rfl dX8_tape_53 l_RX8_37 i0 fd8_11.1 fd8_11.2.1 fd8_11.2.2.1 fd8_11.2.2.2 f0_11 rfl ?_
              refine R_iload_n (pc' := 57) dX8_tape_56 rfl rfl ?_
              have hs16 := h.1
              have h := h.2
              refine Q_aaload15 (v := (96 + 2 * a1)) (N := 6) (pc' := 58) rfl dX8_tape_57 i6 (by decide) hs16 (f6 hs16.1 hs16.2) rfl ?_
              refine R_iload_n (pc' := 59) dX8_tape_58 rfl rfl ?_
              refine R_iload_n (pc' := 60) dX8_tape_59 rfl rfl ?_
              refine Q_callVV (vs := [(0, a2), (0, a3)]) (st := []) (pc' := 63) dX8_tape_60 l_RX8_304 (tap_s (tap_at hs16.1 hs16.2)) (by decide) rfl rfl (Nat.le_of_ble_eq_true rfl) rfl (Nat.zero_le _) (Nat.zero_le _) rfl ?_
              refine CV.mono h (fun c17 h => ?_)
              refine R_iconst (pc' := 64) dX8_tape_63 rfl ?_
              exact Q_iret dX8_tape_64 rfl h
            · have h := h.2 hc14
              refine R_bipush (pc' := 51) dX8_tape_49 (by decide) rfl ?_
              exact Q_iret dX8_tape_51 rfl h
          · have h := h.2 hc12
            refine R_bipush (pc' := 44) dX8_tape_42 (by decide) rfl ?_
            exact Q_iret dX8_tape_44 rfl h
theorem e_X8_tape {K : SK} {d : Nat} {c : ct} {Q : ct → Int → Prop} (a1 : Int) (a2 : Int) (a3 : Int) (h : WI K (d + 1) mX8_tape 0 [(2, 0), (0, a1), (0, a2), (0, a3)] [] c Q) : CI K (d + 1) mX8_tape [(2, 0), (0, a1), (0, a2), (0, a3)] c Q := CM_ofS (by decide) (Nat.le_of_ble_eq_true rfl) _ rfl h
set_option maxRecDepth 100000 in
theorem s_X8_item_0 {K : SK} {d : Nat} {c : ct} {Q : ct → Int → Prop} (a1 : Int) (a2 : Int) (a3 : Int) (h : CI K d mX8_isTape [(0, a1)] c (fun c1 r2 => (r2 = 0 → Q c1 (-1)) ∧ (¬ (r2 = 0) → ir r2 ∧ ((0 ≤ a1 ∧ a1 < 6)) ∧ ((c1 (96 + 2 * a1) 1) = (-1) → Q c1 (-11)) ∧ (¬ ((c1 (96 + 2 * a1) 1) = (-1)) → ir (c1 (96 + 2 * a1) 1) ∧ ((0 ≤ a1 ∧ a1 < 6)) ∧ CI K d mX7_hasPlace [(2, (96 + 2 * a1)), (0, a2)] c1 (fun c7 r8 => (r8 = 0 → Q c7 (-13)) ∧ (¬ (r8 = 0) → ir r8 ∧ ((0 ≤ a1 ∧ a1 < 6)) ∧ CV K d mX7_put [(2, (96 + 2 * a1)), (0, a2), (1, a3)] c7 (fun c11 => Q c11 1))))))) : WI K (d + 1) mX8_item 0 [(2, 0), (0, a1), (0, a2), (1, a3), (9, 0)] [] c Q := by
  refine R_iload_n (pc' := 1) dX8_item_0 rfl rfl ?_
  refine Q_callSI (vs := [(0, a1)]) (st := []) (pc' := 4) dX8_item_1 l_RX8_265 rfl (Nat.le_of_ble_eq_true rfl) rfl (Nat.zero_le _) (Nat.zero_le _) rfl ?_
  refine CI.mono h (fun c1 r2 h => ?_)
  by_cases hc3 : r2 = 0
  · have h := h.1 hc3
    refine R_neS_if (tgt := 9) (pc' := 7) dX8_item_4 (by decide) hc3 rfl ?_
    refine R_iconst (pc' := 8) dX8_item_7 rfl ?_
    exact Q_iret dX8_item_8 rfl h
  · have h := h.2 hc3
    refine R_neD_if (tgt := 9) (pc' := 7) dX8_item_4 (by decide) hc3 h.1 rfl ?_
    have h := h.2
    refine R_aload_n (pc' := 10) dX8_item_9 rfl i0.1 rfl ?_
    refine Q_getfr (v := 6) (J := 11) (pc' := 13) rfl dX8_item_10 l_RX8_37 i0 fd8_11.1 fd8_11.2.1 fd8_11.2.2.1 fd8_11.2.2.2 f0_11 rfl ?_
    refine R_iload_n (pc' := 14) dX8_item_13 rfl rfl ?_
    have hs4 := h.1
    have h := h.2
    refine Q_aaload15 (v := (96 + 2 * a1)) (N := 6) (pc' := 15) rfl dX8_item_14 i6 (by decide) hs4 (f6 hs4.1 hs4.2) rfl ?_
    refine Q_getfNi (J := 1) (pc' := 18) rfl dX8_item_15 l_RX8_268 (tap_s (tap_at hs4.1 hs4.2)) fd7_1.1 fd7_1.2.1 fd7_1.2.2.1 rfl ?_
    refine R_iconst (pc' := 19) dX8_item_18 rfl ?_
    by_cases hc5 : (c1 (96 + 2 * a1) 1) = (-1)
    · have h := h.1 hc5
      refine R_neS_ic (tgt := 25) (pc' := 22) dX8_item_19 (by decide) hc5 rfl ?_
      refine R_bipush (pc' := 24) dX8_item_22 (by decide) rfl ?_
      exact Q_iret dX8_item_24 rfl h
    · have h := h.2 hc5
      refine R_neD_ic (tgt := 25) (pc' := 22) dX8_item_19 (by decide) hc5 ⟨h.1, ir_l (by decide) (by decide)⟩ rfl ?_
      have h := h.2
      refine R_aload_n (pc' := 26) dX8_item_25 rfl i0.1 rfl ?_
      refine Q_getfr (v := 6) (J := 11) (pc' := 29) rfl dX8_item_26 l_RX8_37 i0 fd8_11.1 fd8_11.2.1 fd8_11.2.2.1 fd8_11.2.2.2 f0_11 rfl ?_
      refine R_iload_n (pc' := 30) dX8_item_29 rfl rfl ?_
      have hs6 := h.1
      have h := h.2
      refine Q_aaload15 (v := (96 + 2 * a1)) (N := 6) (pc' := 31) rfl dX8_item_30 i6 (by decide) hs6 (f6 hs6.1 hs6.2) rfl ?_
      refine R_iload_n (pc' := 32) dX8_item_31 rfl rfl ?_
      refine Q_callVI (vs := [(0, a2)]) (st := []) (pc' := 35) dX8_item_32 l_RX8_271 (tap_s (tap_at hs6.1 hs6.2)) (by decide) rfl rfl (Nat.le_of_ble_eq_true rfl) rfl (Nat.zero_le _) (Nat.zero_le _) rfl ?_
      refine CI.mono h (fun c7 r8 h => ?_)
      by_cases hc9 : r8 = 0
      · have h := h.1 hc9
        refine R_neS_if (tgt := 41) (pc' := 38) dX8_item_35 (by decide) hc9 rfl ?_
        refine R_bipush (pc' := 40) dX8_item_38 (by decide) rfl ?_
        exact Q_iret dX8_item_40 rfl h
      · have h := h.2 hc9
        refine R_neD_if (tgt := 41) (pc' := 38) dX8_item_35 (by decide) hc9 h.1 rfl ?_
        have h := h.2
        refine R_aload_n (pc' := 42) dX8_item_41 rfl i0.1 rfl ?_
        refine Q_getfr (v := 6) (J := 11) (pc' := 45) rfl dX8_item_42 l_RX8_37 i0 fd8_11.1 fd8_11.2.1 fd8_11.2.2.1 fd8_11.2.2.2 f0_11 rfl ?_
        refine R_iload_n (pc' := 46) dX8_item_45 rfl rfl ?_
        have hs10 := h.1
        have h := h.2
        refine Q_aaload15 (v := (96 + 2 * a1)) (N := 6) (pc' := 47) rfl dX8_item_46 i6 (by decide) hs10 (f6 hs10.1 hs10.2) rfl ?_
        refine R_iload_n (pc' := 48) dX8_item_47 rfl rfl ?_
        refine R_lload_n (pc' := 49) dX8_item_48 rfl rfl ?_
        refine Q_callVV (vs := [(0, a2), (1, a3)]) (st := []) (pc' := 52) dX8_item_49 l_RX8_307 (tap_s (tap_at hs10.1 hs10.2)) (by decide) rfl rfl (Nat.le_of_ble_eq_true rfl) rfl (Nat.zero_le _) (Nat.zero_le _) rfl ?_
        refine CV.mono h (fun c11 h => ?_)
        refine R_iconst (pc' := 53) dX8_item_52 rfl ?_
        exact Q_iret dX8_item_53 rfl h
theorem e_X8_item {K : SK} {d : Nat} {c : ct} {Q : ct → Int → Prop} (a1 : Int) (a2 : Int) (a3 : Int) (h : WI K (d + 1) mX8_item 0 [(2, 0), (0, a1), (0, a2), (1, a3), (9, 0)] [] c Q) : CI K (d + 1) mX8_item [(2, 0), (0, a1), (0, a2), (1, a3)] c Q := CM_ofS (by decide) (Nat.le_of_ble_eq_true rfl) _ rfl h
set_option maxRecDepth 100000 in
theorem s_X8_read_0 {K : SK} {d : Nat} {c : ct} {Q : ct → Int → Prop} (a1 : Int) (a2 : Int) (h : CI K d mX8_isTape [(0, a1)] c (fun c1 r2 => (r2 = 0 → Q c1 (-9223372036854775808)) ∧ (¬ (r2 = 0) → ir r2 ∧ ((0 ≤ a1 ∧ a1 < 6)) ∧ CI K d mX7_hasPlace [(2, (96 + 2 * a1)), (0, a2)] c1 (fun c5 r6 => (r6 = 0 → Q c5 (-9223372036854775808)) ∧ (¬ (r6 = 0) → ir r6 ∧ ((0 ≤ a1 ∧ a1 < 6)) ∧ ((0 ≤ a2 ∧ a2 < 60)) ∧ Q c5 (c5 ((96 + 2 * a1) + 1) a2)))))) : WLg K (d + 1) mX8_read 0 [(2, 0), (0, a1), (0, a2)] [] c Q := by
  refine R_iload_n (pc' := 1) dX8_read_0 rfl rfl ?_
  refine Q_callSI (vs := [(0, a1)]) (st := []) (pc' := 4) dX8_read_1 l_RX8_265 rfl (Nat.le_of_ble_eq_true rfl) rfl (Nat.zero_le _) (Nat.zero_le _) rfl ?_
  refine CI.mono h (fun c1 r2 h => ?_)
  by_cases hc3 : r2 = 0
  · have h := h.1 hc3
    refine R_eqS_if (tgt := 34) (pc' := 7) dX8_read_4 (by decide) hc3 rfl ?_
    refine R_ldc2 (x := (-9223372036854775808)) (pc' := 37) dX8_read_34 l_RX8_250 (by decide) rfl ?_
    exact Q_lret dX8_read_37 rfl h
  · have h := h.2 hc3
    refine R_eqD_if (tgt := 34) (pc' := 7) dX8_read_4 (by decide) hc3 h.1 rfl ?_
    have h := h.2
    refine R_aload_n (pc' := 8) dX8_read_7 rfl i0.1 rfl ?_
    refine Q_getfr (v := 6) (J := 11) (pc' := 11) rfl dX8_read_8 l_RX8_37 i0 fd8_11.1 fd8_11.2.1 fd8_11.2.2.1 fd8_11.2.2.2 f0_11 rfl ?_
    refine R_iload_n (pc' := 12) dX8_read_11 rfl rfl ?_
    have hs4 := h.1
    have h := h.2
    refine Q_aaload15 (v := (96 + 2 * a1)) (N := 6) (pc' := 13) rfl dX8_read_12 i6 (by decide) hs4 (f6 hs4.1 hs4.2) rfl ?_
    refine R_iload_n (pc' := 14) dX8_read_13 rfl rfl ?_
    refine Q_callVI (vs := [(0, a2)]) (st := []) (pc' := 17) dX8_read_14 l_RX8_271 (tap_s (tap_at hs4.1 hs4.2)) (by decide) rfl rfl (Nat.le_of_ble_eq_true rfl) rfl (Nat.zero_le _) (Nat.zero_le _) rfl ?_
    refine CI.mono h (fun c5 r6 h => ?_)
    by_cases hc7 : r6 = 0
    · have h := h.1 hc7
      refine R_eqS_if (tgt := 34) (pc' := 20) dX8_read_17 (by decide) hc7 rfl ?_
      refine R_ldc2 (x := (-9223372036854775808)) (pc' := 37) dX8_read_34 l_RX8_250 (by decide) rfl ?_
      exact Q_lret dX8_read_37 rfl h
    · have h := h.2 hc7
      refine R_eqD_if (tgt := 34) (pc' := 20) dX8_read_17 (by decide) hc7 h.1 rfl ?_
      have h := h.2
      refine R_aload_n (pc' := 21) dX8_read_20 rfl i0.1 rfl ?_
      refine Q_getfr (v := 6) (J := 11) (pc' := 24) rfl dX8_read_21 l_RX8_37 i0 fd8_11.1 fd8_11.2.1 fd8_11.2.2.1 fd8_11.2.2.2 f0_11 rfl ?_
      refine R_iload_n (pc' := 25) dX8_read_24 rfl rfl ?_
      have hs8 := h.1
      have h := h.2
      refine Q_aaload15 (v := (96 + 2 * a1)) (N := 6) (pc' := 26) rfl dX8_read_25 i6 (by decide) hs8 (f6 hs8.1 hs8.2) rfl ?_
      refine Q_getfNr (v := ((96 + 2 * a1) + 1)) (J := 0) (pc' := 29) rfl dX8_read_26 l_RX8_274 (tap_s (tap_at hs8.1 hs8.2)) fd7_0.1 fd7_0.2.1 fd7_0.2.2.1 fd7_0.2.2.2 (tap_f0 (tap_at hs8.1 hs8.2)) rfl ?_
      refine R_iload_n (pc' := 30) dX8_read_29 rfl rfl ?_
      have hs9 := h.1
      have h := h.2
      refine Q_laload (N := 60) (pc' := 31) rfl dX8_read_30 (tap_0 (tap_at hs8.1 hs8.2)) (by decide) hs9 rfl ?_
      refine R_goto (tgt := 37) dX8_read_31 (by decide) ?_
      exact Q_lret dX8_read_37 rfl h
theorem e_X8_read {K : SK} {d : Nat} {c : ct} {Q : ct → Int → Prop} (a1 : Int) (a2 : Int) (h : WLg K (d + 1) mX8_read 0 [(2, 0), (0, a1), (0, a2)] [] c Q) : CL K (d + 1) mX8_read [(2, 0), (0, a1), (0, a2)] c Q := CM_ofS (by decide) (Nat.le_of_ble_eq_true rfl) _ rfl h
set_option maxRecDepth 100000 in
theorem s_X8_shift_0 {K : SK} {d : Nat} {c : ct} {Q : ct → Int → Prop} (a1 : Int) (a2 : Int) (a3 : Int) (a4 : Int) (a5 : Int) (h : CI K d mX8_isTape [(0, a1)] c (fun c1 r2 => (r2 = 0 → Q c1 (-1)) ∧ (¬ (r2 = 0) → ir r2 ∧ CI K d mX8_isTape [(0, a3)] c1 (fun c4 r5 => (r5 = 0 → Q c4 (-1)) ∧ (¬ (r5 = 0) → ir r5 ∧ ((0 ≤ a1 ∧ a1 < 6)) ∧ ((0 ≤ a3 ∧ a3 < 6)) ∧ ((c4 (96 + 2 * a1) 1) = (-1) → Q c4 (-11)) ∧ (¬ ((c4 (96 + 2 * a1) 1) = (-1)) → ir (c4 (96 + 2 * a1) 1) ∧ ((c4 (96 + 2 * a3) 1) = (-1) → Q c4 (-11)) ∧ (¬ ((c4 (96 + 2 * a3) 1) = (-1)) → ir (c4 (96 + 2 * a3) 1) ∧ ((c4 (96 + 2 * a1) 1) = (c4 (96 + 2 * a3) 1) → CI K d mX7_hasPlaces [(2, (96 + 2 * a1)), (0, a2), (0, a5)] c4 (fun c12 r13 => (r13 = 0 → Q c12 (-13)) ∧ (¬ (r13 = 0) → ir r13 ∧ CI K d mX7_hasPlaces [(2, (96 + 2 * a3)), (0, a4), (0, a5)] c12 (fun c15 r16 => (r16 = 0 → Q c15 (-13)) ∧ (¬ (r16 = 0) → ir r16 ∧ ((((0 : Int) ≤ a2 ∧ (0 : Int) ≤ a4 ∧ (0 : Int) ≤ a5) ∧ a2 + a5 ≤ 60 ∧ a4 + a5 ≤ 60)) ∧ ∀ c18 : ct, c18 = upRow c15 ((96 + 2 * a3) + 1) (cpyI (c15 ((96 + 2 * a1) + 1)) (c15 ((96 + 2 * a3) + 1)) a2 a4 a5) → Q c18 a5))))) ∧ (¬ ((c4 (96 + 2 * a1) 1) = (c4 (96 + 2 * a3) 1)) → (ir (c4 (96 + 2 * a1) 1) ∧ ir (c4 (96 + 2 * a3) 1)) ∧ Q c4 (-12))))))))) : WI K (d + 1) mX8_shift 0 [(2, 0), (0, a1), (0, a2), (0, a3), (0, a4), (0, a5), (9, 0), (9, 0)] [] c Q := by
  refine R_iload_n (pc' := 1) dX8_shift_0 rfl rfl ?_
  refine Q_callSI (vs := [(0, a1)]) (st := []) (pc' := 4) dX8_shift_1 l_RX8_265 rfl (Nat.le_of_ble_eq_true rfl) rfl (Nat.zero_le _) (Nat.zero_le _) rfl ?_
  refine CI.mono h (fun c1 r2 h => ?_)
  by_cases hc3 : r2 = 0
  · have h := h.1 hc3
    refine R_eqS_if (tgt := 14) (pc' := 7) dX8_shift_4 (by decide) hc3 rfl ?_
    refine R_iconst (pc' := 15) dX8_shift_14 rfl ?_
    exact Q_iret dX8_shift_15 rfl h
  · have h := h.2 hc3
    refine R_eqD_if (tgt := 14) (pc' := 7) dX8_shift_4 (by decide) hc3 h.1 rfl ?_
    have h := h.2
    refine R_iload_n (pc' := 8) dX8_shift_7 rfl rfl ?_
    refine Q_callSI (vs := [(0, a3)]) (st := []) (pc' := 11) dX8_shift_8 l_RX8_265 rfl (Nat.le_of_ble_eq_true rfl) rfl (Nat.zero_le _) (Nat.zero_le _) rfl ?_
    refine CI.mono h (fun c4 r5 h => ?_)
    by_cases hc6 : r5 = 0
    · have h := h.1 hc6
      refine R_neS_if (tgt := 16) (pc' := 14) dX8_shift_11 (by decide) hc6 rfl ?_
      refine R_iconst (pc' := 15) dX8_shift_14 rfl ?_
      exact Q_iret dX8_shift_15 rfl h
    · have h := h.2 hc6
      refine R_neD_if (tgt := 16) (pc' := 14) dX8_shift_11 (by decide) hc6 h.1 rfl ?_
      have h := h.2
      refine R_aload_n (pc' := 17) dX8_shift_16 rfl i0.1 rfl ?_
      refine Q_getfr (v := 6) (J := 11) (pc' := 20) rfl dX8_shift_17 l_RX8_37 i0 fd8_11.1 fd8_11.2.1 fd8_11.2.2.1 fd8_11.2.2.2 f0_11 rfl ?_
      refine R_iload_n (pc' := 21) dX8_shift_20 rfl rfl ?_
      have hs7 := h.1
      have h := h.2
      refine Q_aaload15 (v := (96 + 2 * a1)) (N := 6) (pc' := 22) rfl dX8_shift_21 i6 (by decide) hs7 (f6 hs7.1 hs7.2) rfl ?_
      refine R_astore (L' := [_, _, _, _, _, _, _, _]) (pc' := 24) dX8_shift_22 (tap_s (tap_at hs7.1 hs7.2)).1 (by decide) rfl rfl rfl ?_
      refine R_aload_n (pc' := 25) dX8_shift_24 rfl i0.1 rfl ?_
      refine Q_getfr (v := 6) (J := 11) (pc' := 28) rfl dX8_shift_25 l_RX8_37 i0 fd8_11.1 fd8_11.2.1 fd8_11.2.2.1 fd8_11.2.2.2 f0_11 rfl ?_
      refine R_iload_n (pc' := 29) dX8_shift_28 rfl rfl ?_
      have hs8 := h.1
      have h := h.2
      refine Q_aaload15 (v := (96 + 2 * a3)) (N := 6) (pc' := 30) rfl dX8_shift_29 i6 (by decide) hs8 (f6 hs8.1 hs8.2) rfl ?_
      refine R_astore (L' := [_, _, _, _, _, _, _, _]) (pc' := 32) dX8_shift_30 (tap_s (tap_at hs8.1 hs8.2)).1 (by decide) rfl rfl rfl ?_
      refine R_aload (pc' := 34) dX8_shift_32 rfl (tap_s (tap_at hs7.1 hs7.2)).1 rfl ?_
      refine Q_getfNi (J := 1) (pc' := 37) rfl dX8_shift_34 l_RX8_268 (tap_s (tap_at hs7.1 hs7.2)) fd7_1.1 fd7_1.2.1 fd7_1.2.2.1 rfl ?_
      refine R_iconst (pc' := 38) dX8_shift_37 rfl ?_
      by_cases hc9 : (c4 (96 + 2 * a1) 1) = (-1)
      · have h := h.1 hc9
        refine R_eqS_ic (tgt := 50) (pc' := 41) dX8_shift_38 (by decide) hc9 rfl ?_
        refine R_bipush (pc' := 52) dX8_shift_50 (by decide) rfl ?_
        exact Q_iret dX8_shift_52 rfl h
      · have h := h.2 hc9
        refine R_eqD_ic (tgt := 50) (pc' := 41) dX8_shift_38 (by decide) hc9 ⟨h.1, ir_l (by decide) (by decide)⟩ rfl ?_
        have h := h.2
        refine R_aload (pc' := 43) dX8_shift_41 rfl (tap_s (tap_at hs8.1 hs8.2)).1 rfl ?_
        refine Q_getfNi (J := 1) (pc' := 46) rfl dX8_shift_43 l_RX8_268 (tap_s (tap_at hs8.1 hs8.2)) fd7_1.1 fd7_1.2.1 fd7_1.2.2.1 rfl ?_
        refine R_iconst (pc' := 47) dX8_shift_46 rfl ?_
        by_cases hc10 : (c4 (96 + 2 * a3) 1) = (-1)
        · have h := h.1 hc10
          refine R_neS_ic (tgt := 53) (pc' := 50) dX8_shift_47 (by decide) hc10 rfl ?_
          refine R_bipush (pc' := 52) dX8_shift_50 (by decide) rfl ?_
          exact Q_iret dX8_shift_52 rfl h
        · have h := h.2 hc10
          refine R_neD_ic (tgt := 53) (pc' := 50) dX8_shift_47 (by decide) hc10 ⟨h.1, ir_l (by decide) (by decide)⟩ rfl ?_
          have h := h.2
          refine R_aload (pc' := 55) dX8_shift_53 rfl (tap_s (tap_at hs7.1 hs7.2)).1 rfl ?_
          refine Q_getfNi (J := 1) (pc' := 58) rfl dX8_shift_55 l_RX8_268 (tap_s (tap_at hs7.1 hs7.2)) fd7_1.1 fd7_1.2.1 fd7_1.2.2.1 rfl ?_
          refine R_aload (pc' := 60) dX8_shift_58 rfl (tap_s (tap_at hs8.1 hs8.2)).1 rfl ?_
          refine Q_getfNi (J := 1) (pc' := 63) rfl dX8_shift_60 l_RX8_268 (tap_s (tap_at hs8.1 hs8.2)) fd7_1.1 fd7_1.2.1 fd7_1.2.2.1 rfl ?_
          by_cases hc11 : (c4 (96 + 2 * a1) 1) = (c4 (96 + 2 * a3) 1)
          · have h := h.1 hc11
            refine R_eqS_ic (tgt := 69) (pc' := 66) dX8_shift_63 (by decide) hc11 rfl ?_
            refine R_aload (pc' := 71) dX8_shift_69 rfl (tap_s (tap_at hs7.1 hs7.2)).1 rfl ?_
            refine R_iload_n (pc' := 72) dX8_shift_71 rfl rfl ?_
            refine R_iload (pc' := 74) dX8_shift_72 rfl rfl ?_
            refine Q_callVI (vs := [(0, a2), (0, a5)]) (st := []) (pc' := 77) dX8_shift_74 l_RX8_311 (tap_s (tap_at hs7.1 hs7.2)) (by decide) rfl rfl (Nat.le_of_ble_eq_true rfl) rfl (Nat.zero_le _) (Nat.zero_le _) rfl ?_
            refine CI.mono h (fun c12 r13 h => ?_)
            by_cases hc14 : r13 = 0
            · have h := h.1 hc14
              refine R_eqS_if (tgt := 92) (pc' := 80) dX8_shift_77 (by decide) hc14 rfl ?_
              refine R_bipush (pc' := 94) dX8_shift_92 (by decide) rfl ?_
              exact Q_iret dX8_shift_94 rfl h
            · have h := h.2 hc14
              refine R_eqD_if (tgt := 92) (pc' := 80) dX8_shift_77 (by decide) hc14 h.1 rfl ?_
              have h := h.2
              refine R_aload (pc' := 82) dX8_shift_80 rfl (tap_s (tap_at hs8.1 hs8.2)).1 rfl ?_
              refine R_iload (pc' := 84) dX8_shift_82 rfl rfl ?_
              refine R_iload (pc' := 86) dX8_shift_84 rfl rfl ?_
              refine Q_callVI (vs := [(0, a4), (0, a5)]) (st := []) (pc' := 89) dX8_shift_86 l_RX8_311 (tap_s (tap_at hs8.1 hs8.2)) (by decide) rfl rfl (Nat.le_of_ble_eq_true rfl) rfl (Nat.zero_le _) (Nat.zero_le _) rfl ?_
              refine CI.mono h (fun c15 r16 h => ?_)
              by_cases hc17 : r16 = 0
              · have h := h.1 hc17
                refine R_neS_if (tgt := 95) (pc' := 92) dX8_shift_89 (by decide) hc17 rfl ?_
                refine R_bipush (pc' := 94) dX8_shift_92 (by decide) rfl ?_
                exact Q_iret dX8_shift_94 rfl h
              · have h := h.2 hc17
                refine R_neD_if (tgt := 95) (pc' := 92) dX8_shift_89 (by decide) hc17 h.1 rfl ?_
                have h := h.2
                refine R_aload (pc' := 97) dX8_shift_95 rfl (tap_s (tap_at hs7.1 hs7.2)).1 rfl ?_
                refine Q_getfNr (v := ((96 + 2 * a1) + 1)) (J := 0) (pc' := 100) rfl dX8_shift_97 l_RX8_274 (tap_s (tap_at hs7.1 hs7.2)) fd7_0.1 fd7_0.2.1 fd7_0.2.2.1 fd7_0.2.2.2 (tap_f0 (tap_at hs7.1 hs7.2)) rfl ?_
                refine R_iload_n (pc' := 101) dX8_shift_100 rfl rfl ?_
                refine R_aload (pc' := 103) dX8_shift_101 rfl (tap_s (tap_at hs8.1 hs8.2)).1 rfl ?_
                refine Q_getfNr (v := ((96 + 2 * a3) + 1)) (J := 0) (pc' := 106) rfl dX8_shift_103 l_RX8_274 (tap_s (tap_at hs8.1 hs8.2)) fd7_0.1 fd7_0.2.1 fd7_0.2.2.1 fd7_0.2.2.2 (tap_f0 (tap_at hs8.1 hs8.2)) rfl ?_
                refine R_iload (pc' := 108) dX8_shift_106 rfl rfl ?_
                refine R_iload (pc' := 110) dX8_shift_108 rfl rfl ?_
                have hs19 := h.1
                have h := h.2
                refine Q_cpyl (pc' := 113) dX8_shift_110 l_RX8_315 (by omega) (Nat.le_of_ble_eq_true rfl) (tap_0 (tap_at hs7.1 hs7.2)) (tap_0 (tap_at hs8.1 hs8.2)) (by decide) (by decide) hs19 rfl (fun c18 hc18 => ?_)
                have h := h c18 hc18
                refine R_iload (pc' := 115) dX8_shift_113 rfl rfl ?_
                exact Q_iret dX8_shift_115 rfl h
          · have h := h.2 hc11
            refine R_eqD_ic (tgt := 69) (pc' := 66) dX8_shift_63 (by decide) hc11 h.1 rfl ?_
            have h := h.2
            refine R_bipush (pc' := 68) dX8_shift_66 (by decide) rfl ?_
            exact Q_iret dX8_shift_68 rfl h
theorem e_X8_shift {K : SK} {d : Nat} {c : ct} {Q : ct → Int → Prop} (a1 : Int) (a2 : Int) (a3 : Int) (a4 : Int) (a5 : Int) (h : WI K (d + 1) mX8_shift 0 [(2, 0), (0, a1), (0, a2), (0, a3), (0, a4), (0, a5), (9, 0), (9, 0)] [] c Q) : CI K (d + 1) mX8_shift [(2, 0), (0, a1), (0, a2), (0, a3), (0, a4), (0, a5)] c Q := CM_ofS (by decide) (Nat.le_of_ble_eq_true rfl) _ rfl h
set_option maxRecDepth 100000 in
theorem s_X8_isGuest_0 {K : SK} {d : Nat} {c : ct} {Q : ct → Int → Prop} (a1 : Int) (h : (ir a1) ∧ (a1 < 0 → Q c 0) ∧ (¬ (a1 < 0) → (ir a1 ∧ ir (c 24 10)) ∧ ((c 24 10) ≤ a1 → Q c 0) ∧ (¬ ((c 24 10) ≤ a1) → Q c 1))) : WI K (d + 1) mX8_isGuest 0 [(2, 0), (0, a1)] [] c Q := by
  refine R_iload_n (pc' := 1) dX8_isGuest_0 rfl rfl ?_
  have hs2 := h.1
  have h := h.2
  refine R_if_lt (tgt := 22) (pc' := 4) dX8_isGuest_1 (by decide) hs2  rfl (fun hc1 => ?_) (fun hc1 => ?_)
  · have h := h.1 hc1
    refine R_iconst (pc' := 23) dX8_isGuest_22 rfl ?_
    exact Q_zret dX8_isGuest_23 rfl (Or.inl rfl) h
  · have h := h.2 hc1
    refine R_iload_n (pc' := 5) dX8_isGuest_4 rfl rfl ?_
    refine R_aload_n (pc' := 6) dX8_isGuest_5 rfl i0.1 rfl ?_
    refine Q_getfr (v := 11) (J := 0) (pc' := 9) rfl dX8_isGuest_6 l_RX8_47 i0 fd8_0.1 fd8_0.2.1 fd8_0.2.2.1 fd8_0.2.2.2 f0_0 rfl ?_
    refine Q_getfNr (v := 24) (J := 0) (pc' := 12) rfl dX8_isGuest_9 l_RX8_75 i11 fd1_0.1 fd1_0.2.1 fd1_0.2.2.1 fd1_0.2.2.2 f11_0 rfl ?_
    refine Q_getfNi (J := 10) (pc' := 15) rfl dX8_isGuest_12 l_RX8_78 i24 fd6_10.1 fd6_10.2.1 fd6_10.2.2.1 rfl ?_
    have hs4 := h.1
    have h := h.2
    refine R_icmp_ge (tgt := 22) (pc' := 18) dX8_isGuest_15 (by decide) hs4.1 hs4.2 rfl (fun hc3 => ?_) (fun hc3 => ?_)
    · have h := h.1 hc3
      refine R_iconst (pc' := 23) dX8_isGuest_22 rfl ?_
      exact Q_zret dX8_isGuest_23 rfl (Or.inl rfl) h
    · have h := h.2 hc3
      refine R_iconst (pc' := 19) dX8_isGuest_18 rfl ?_
      refine R_goto (tgt := 23) dX8_isGuest_19 (by decide) ?_
      exact Q_zret dX8_isGuest_23 rfl (Or.inr rfl) h
theorem e_X8_isGuest {K : SK} {d : Nat} {c : ct} {Q : ct → Int → Prop} (a1 : Int) (h : WI K (d + 1) mX8_isGuest 0 [(2, 0), (0, a1)] [] c Q) : CI K (d + 1) mX8_isGuest [(2, 0), (0, a1)] c Q := CM_ofS (by decide) (Nat.le_of_ble_eq_true rfl) _ rfl h
set_option maxRecDepth 100000 in
theorem s_X8_isSeat_0 {K : SK} {d : Nat} {c : ct} {Q : ct → Int → Prop} (a0 : Int) (h : (ir a0) ∧ (a0 < 0 → Q c 0) ∧ (¬ (a0 < 0) → (ir a0) ∧ (6 ≤ a0 → Q c 0) ∧ (¬ (6 ≤ a0) → Q c 1))) : WI K (d + 1) mX8_isSeat 0 [(0, a0)] [] c Q := by
  refine R_iload_n (pc' := 1) dX8_isSeat_0 rfl rfl ?_
  have hs2 := h.1
  have h := h.2
  refine R_if_lt (tgt := 14) (pc' := 4) dX8_isSeat_1 (by decide) hs2  rfl (fun hc1 => ?_) (fun hc1 => ?_)
  · have h := h.1 hc1
    refine R_iconst (pc' := 15) dX8_isSeat_14 rfl ?_
    exact Q_zret dX8_isSeat_15 rfl (Or.inl rfl) h
  · have h := h.2 hc1
    refine R_iload_n (pc' := 5) dX8_isSeat_4 rfl rfl ?_
    refine R_bipush (pc' := 7) dX8_isSeat_5 (by decide) rfl ?_
    have hs4 := h.1
    have h := h.2
    refine R_icmp_ge (tgt := 14) (pc' := 10) dX8_isSeat_7 (by decide) hs4 (ir_l (by decide) (by decide)) rfl (fun hc3 => ?_) (fun hc3 => ?_)
    · have h := h.1 hc3
      refine R_iconst (pc' := 15) dX8_isSeat_14 rfl ?_
      exact Q_zret dX8_isSeat_15 rfl (Or.inl rfl) h
    · have h := h.2 hc3
      refine R_iconst (pc' := 11) dX8_isSeat_10 rfl ?_
      refine R_goto (tgt := 15) dX8_isSeat_11 (by decide) ?_
      exact Q_zret dX8_isSeat_15 rfl (Or.inr rfl) h
theorem e_X8_isSeat {K : SK} {d : Nat} {c : ct} {Q : ct → Int → Prop} (a0 : Int) (h : WI K (d + 1) mX8_isSeat 0 [(0, a0)] [] c Q) : CI K (d + 1) mX8_isSeat [(0, a0)] c Q := CM_ofS (by decide) (Nat.le_of_ble_eq_true rfl) _ rfl h
set_option maxRecDepth 100000 in
theorem s_X8_isTape_0 {K : SK} {d : Nat} {c : ct} {Q : ct → Int → Prop} (a0 : Int) (h : (ir a0) ∧ (a0 < 0 → Q c 0) ∧ (¬ (a0 < 0) → (ir a0) ∧ (6 ≤ a0 → Q c 0) ∧ (¬ (6 ≤ a0) → Q c 1))) : WI K (d + 1) mX8_isTape 0 [(0, a0)] [] c Q := by
  refine R_iload_n (pc' := 1) dX8_isTape_0 rfl rfl ?_
  have hs2 := h.1
  have h := h.2
  refine R_if_lt (tgt := 14) (pc' := 4) dX8_isTape_1 (by decide) hs2  rfl (fun hc1 => ?_) (fun hc1 => ?_)
  · have h := h.1 hc1
    refine R_iconst (pc' := 15) dX8_isTape_14 rfl ?_
    exact Q_zret dX8_isTape_15 rfl (Or.inl rfl) h
  · have h := h.2 hc1
    refine R_iload_n (pc' := 5) dX8_isTape_4 rfl rfl ?_
    refine R_bipush (pc' := 7) dX8_isTape_5 (by decide) rfl ?_
    have hs4 := h.1
    have h := h.2
    refine R_icmp_ge (tgt := 14) (pc' := 10) dX8_isTape_7 (by decide) hs4 (ir_l (by decide) (by decide)) rfl (fun hc3 => ?_) (fun hc3 => ?_)
    · have h := h.1 hc3
      refine R_iconst (pc' := 15) dX8_isTape_14 rfl ?_
      exact Q_zret dX8_isTape_15 rfl (Or.inl rfl) h
    · have h := h.2 hc3
      refine R_iconst (pc' := 11) dX8_isTape_10 rfl ?_
      refine R_goto (tgt := 15) dX8_isTape_11 (by decide) ?_
      exact Q_zret dX8_isTape_15 rfl (Or.inr rfl) h
theorem e_X8_isTape {K : SK} {d : Nat} {c : ct} {Q : ct → Int → Prop} (a0 : Int) (h : WI K (d + 1) mX8_isTape 0 [(0, a0)] [] c Q) : CI K (d + 1) mX8_isTape [(0, a0)] c Q := CM_ofS (by decide) (Nat.le_of_ble_eq_true rfl) _ rfl h
set_option maxRecDepth 100000 in
theorem s_X8_isDigit_0 {K : SK} {d : Nat} {c : ct} {Q : ct → Int → Prop} (a0 : Int) (h : (ir a0) ∧ (a0 < 0 → Q c 0) ∧ (¬ (a0 < 0) → (ir a0) ∧ (9 < a0 → Q c 0) ∧ (¬ (9 < a0) → Q c 1))) : WI K (d + 1) mX8_isDigit 0 [(0, a0)] [] c Q := by
  refine R_iload_n (pc' := 1) dX8_isDigit_0 rfl rfl ?_
  have hs2 := h.1
  have h := h.2
  refine R_if_lt (tgt := 14) (pc' := 4) dX8_isDigit_1 (by decide) hs2  rfl (fun hc1 => ?_) (fun hc1 => ?_)
  · have h := h.1 hc1
    refine R_iconst (pc' := 15) dX8_isDigit_14 rfl ?_
    exact Q_zret dX8_isDigit_15 rfl (Or.inl rfl) h
  · have h := h.2 hc1
    refine R_iload_n (pc' := 5) dX8_isDigit_4 rfl rfl ?_
    refine R_bipush (pc' := 7) dX8_isDigit_5 (by decide) rfl ?_
    have hs4 := h.1
    have h := h.2
    refine R_icmp_gt (tgt := 14) (pc' := 10) dX8_isDigit_7 (by decide) hs4 (ir_l (by decide) (by decide)) rfl (fun hc3 => ?_) (fun hc3 => ?_)
    · have h := h.1 hc3
      refine R_iconst (pc' := 15) dX8_isDigit_14 rfl ?_
      exact Q_zret dX8_isDigit_15 rfl (Or.inl rfl) h
    · have h := h.2 hc3
      refine R_iconst (pc' := 11) dX8_isDigit_10 rfl ?_
      refine R_goto (tgt := 15) dX8_isDigit_11 (by decide) ?_
      exact Q_zret dX8_isDigit_15 rfl (Or.inr rfl) h
theorem e_X8_isDigit {K : SK} {d : Nat} {c : ct} {Q : ct → Int → Prop} (a0 : Int) (h : WI K (d + 1) mX8_isDigit 0 [(0, a0)] [] c Q) : CI K (d + 1) mX8_isDigit [(0, a0)] c Q := CM_ofS (by decide) (Nat.le_of_ble_eq_true rfl) _ rfl h
set_option maxRecDepth 100000 in
theorem s_X8_oneIf_0 {K : SK} {d : Nat} {c : ct} {Q : ct → Int → Prop} (a0 : Int) (h : (a0 = 0 → Q c 0) ∧ (¬ (a0 = 0) → ir a0 ∧ Q c 1)) : WI K (d + 1) mX8_oneIf 0 [(0, a0)] [] c Q := by
  refine R_iload_n (pc' := 1) dX8_oneIf_0 rfl rfl ?_
  by_cases hc1 : a0 = 0
  · have h := h.1 hc1
    refine R_eqS_if (tgt := 8) (pc' := 4) dX8_oneIf_1 (by decide) hc1 rfl ?_
    refine R_iconst (pc' := 9) dX8_oneIf_8 rfl ?_
    exact Q_iret dX8_oneIf_9 rfl h
  · have h := h.2 hc1
    refine R_eqD_if (tgt := 8) (pc' := 4) dX8_oneIf_1 (by decide) hc1 h.1 rfl ?_
    have h := h.2
    refine R_iconst (pc' := 5) dX8_oneIf_4 rfl ?_
    refine R_goto (tgt := 9) dX8_oneIf_5 (by decide) ?_
    exact Q_iret dX8_oneIf_9 rfl h
theorem e_X8_oneIf {K : SK} {d : Nat} {c : ct} {Q : ct → Int → Prop} (a0 : Int) (h : WI K (d + 1) mX8_oneIf 0 [(0, a0)] [] c Q) : CI K (d + 1) mX8_oneIf [(0, a0)] c Q := CM_ofS (by decide) (Nat.le_of_ble_eq_true rfl) _ rfl h
