set_option maxRecDepth 100000 in
theorem s_X6_copyFrom_0 {K : SK} {d : Nat} {c : ct} {Q : ct → Prop} (t : Int) (ht : isTab t) (a1 : Int) (ha1 : isTab a1) (h : ∀ c1 : ct, c1 = upRow c (t + 1) (cpyI (c (a1 + 1)) (c (t + 1)) 0 0 6) → ∀ c2 : ct, c2 = upRow c1 (t + 2) (cpyI (c1 (a1 + 2)) (c1 (t + 2)) 0 0 6) → ∀ c3 : ct, c3 = upRow c2 (t + 3) (cpyI (c2 (a1 + 3)) (c2 (t + 3)) 0 0 6) → ∀ c4 : ct, c4 = upRow c3 (t + 4) (cpyI (c3 (a1 + 4)) (c3 (t + 4)) 0 0 6) → ((∀ j : Int, 0 ≤ j → j < 6 → c4 (a1 + 5) j = 0 ∨ c4 (a1 + 5) j = 1)) ∧ ∀ c5 : ct, c5 = upRow c4 (t + 5) (cpyI (c4 (a1 + 5)) (c4 (t + 5)) 0 0 6) → ((∀ j : Int, 0 ≤ j → j < 6 → c5 (a1 + 6) j = 0 ∨ c5 (a1 + 6) j = 1)) ∧ ∀ c7 : ct, c7 = upRow c5 (t + 6) (cpyI (c5 (a1 + 6)) (c5 (t + 6)) 0 0 6) → ∀ c9 : ct, c9 = upRow c7 (t + 7) (cpyI (c7 (a1 + 7)) (c7 (t + 7)) 0 0 24) → ∀ c10 : ct, c10 = upRow c9 (t + 8) (cpyI (c9 (a1 + 8)) (c9 (t + 8)) 0 0 6) → ∀ c11 : ct, c11 = upRow c10 (t + 9) (cpyI (c10 (a1 + 9)) (c10 (t + 9)) 0 0 36) → ∀ c12 : ct, c12 = up2 c11 t 10 (c11 a1 10) → ∀ c13 : ct, c13 = up2 c12 t 11 (c12 a1 11) → ∀ c14 : ct, c14 = up2 c13 t 12 (c13 a1 12) → (isHou (c14 a1 13)) ∧ ∀ c16 : ct, c16 = up2 c14 t 13 (c14 a1 13) → Q c16) : WV K (d + 1) mX6_copyFrom 0 [(2, t), (2, a1)] [] c Q := by
  refine R_aload_n (pc' := 1) dX6_copyFrom_0 rfl (tab_s ha1).1 rfl ?_
  refine Q_getfr (v := (a1 + 1)) (J := 0) (pc' := 4) rfl dX6_copyFrom_1 l_RX6_9 (tab_s ha1) fd6_0.1 fd6_0.2.1 fd6_0.2.2.1 fd6_0.2.2.2 (tab_f0 ha1) rfl ?_
  refine R_iconst (pc' := 5) dX6_copyFrom_4 rfl ?_
  refine R_aload_n (pc' := 6) dX6_copyFrom_5 rfl (tab_s ht).1 rfl ?_
  refine Q_getfr (v := (t + 1)) (J := 0) (pc' := 9) rfl dX6_copyFrom_6 l_RX6_9 (tab_s ht) fd6_0.1 fd6_0.2.1 fd6_0.2.2.1 fd6_0.2.2.2 (tab_f0 ht) rfl ?_
  refine R_iconst (pc' := 10) dX6_copyFrom_9 rfl ?_
  refine R_bipush (pc' := 12) dX6_copyFrom_10 (by decide) rfl ?_
  refine Q_cpyi (pc' := 15) dX6_copyFrom_12 l_RX6_49 (by omega) (Nat.le_of_ble_eq_true rfl) (tab_0 ha1) (tab_0 ht) (by decide) (by decide) (by decide) rfl (fun c1 hc1 => ?_)
  have h := h c1 hc1
  refine R_aload_n (pc' := 16) dX6_copyFrom_15 rfl (tab_s ha1).1 rfl ?_
  refine Q_getfr (v := (a1 + 2)) (J := 1) (pc' := 19) rfl dX6_copyFrom_16 l_RX6_15 (tab_s ha1) fd6_1.1 fd6_1.2.1 fd6_1.2.2.1 fd6_1.2.2.2 (tab_f1 ha1) rfl ?_
  refine R_iconst (pc' := 20) dX6_copyFrom_19 rfl ?_
  refine R_aload_n (pc' := 21) dX6_copyFrom_20 rfl (tab_s ht).1 rfl ?_
  refine Q_getfr (v := (t + 2)) (J := 1) (pc' := 24) rfl dX6_copyFrom_21 l_RX6_15 (tab_s ht) fd6_1.1 fd6_1.2.1 fd6_1.2.2.1 fd6_1.2.2.2 (tab_f1 ht) rfl ?_
  refine R_iconst (pc' := 25) dX6_copyFrom_24 rfl ?_
  refine R_bipush (pc' := 27) dX6_copyFrom_25 (by decide) rfl ?_
  refine Q_cpyi (pc' := 30) dX6_copyFrom_27 l_RX6_49 (by omega) (Nat.le_of_ble_eq_true rfl) (tab_1 ha1) (tab_1 ht) (by decide) (by decide) (by decide) rfl (fun c2 hc2 => ?_)
  have h := h c2 hc2
  refine R_aload_n (pc' := 31) dX6_copyFrom_30 rfl (tab_s ha1).1 rfl ?_
  refine Q_getfr (v := (a1 + 3)) (J := 2) (pc' := 34) rfl dX6_copyFrom_31 l_RX6_18 (tab_s ha1) fd6_2.1 fd6_2.2.1 fd6_2.2.2.1 fd6_2.2.2.2 (tab_f2 ha1) rfl ?_
  refine R_iconst (pc' := 35) dX6_copyFrom_34 rfl ?_
  refine R_aload_n (pc' := 36) dX6_copyFrom_35 rfl (tab_s ht).1 rfl ?_
  refine Q_getfr (v := (t + 3)) (J := 2) (pc' := 39) rfl dX6_copyFrom_36 l_RX6_18 (tab_s ht) fd6_2.1 fd6_2.2.1 fd6_2.2.2.1 fd6_2.2.2.2 (tab_f2 ht) rfl ?_
  refine R_iconst (pc' := 40) dX6_copyFrom_39 rfl ?_
  refine R_bipush (pc' := 42) dX6_copyFrom_40 (by decide) rfl ?_
  refine Q_cpyi (pc' := 45) dX6_copyFrom_42 l_RX6_49 (by omega) (Nat.le_of_ble_eq_true rfl) (tab_2 ha1) (tab_2 ht) (by decide) (by decide) (by decide) rfl (fun c3 hc3 => ?_)
  have h := h c3 hc3
  refine R_aload_n (pc' := 46) dX6_copyFrom_45 rfl (tab_s ha1).1 rfl ?_
  refine Q_getfr (v := (a1 + 4)) (J := 3) (pc' := 49) rfl dX6_copyFrom_46 l_RX6_21 (tab_s ha1) fd6_3.1 fd6_3.2.1 fd6_3.2.2.1 fd6_3.2.2.2 (tab_f3 ha1) rfl ?_
  refine R_iconst (pc' := 50) dX6_copyFrom_49 rfl ?_
  refine R_aload_n (pc' := 51) dX6_copyFrom_50 rfl (tab_s ht).1 rfl ?_
  refine Q_getfr (v := (t + 4)) (J := 3) (pc' := 54) rfl dX6_copyFrom_51 l_RX6_21 (tab_s ht) fd6_3.1 fd6_3.2.1 fd6_3.2.2.1 fd6_3.2.2.2 (tab_f3 ht) rfl ?_
  refine R_iconst (pc' := 55) dX6_copyFrom_54 rfl ?_
  refine R_bipush (pc' := 57) dX6_copyFrom_55 (by decide) rfl ?_
  refine Q_cpyi (pc' := 60) dX6_copyFrom_57 l_RX6_49 (by omega) (Nat.le_of_ble_eq_true rfl) (tab_3 ha1) (tab_3 ht) (by decide) (by decide) (by decide) rfl (fun c4 hc4 => ?_)
  have h := h c4 hc4
  refine R_aload_n (pc' := 61) dX6_copyFrom_60 rfl (tab_s ha1).1 rfl ?_
  refine Q_getfr (v := (a1 + 5)) (J := 4) (pc' := 64) rfl dX6_copyFrom_61 l_RX6_24 (tab_s ha1) fd6_4.1 fd6_4.2.1 fd6_4.2.2.1 fd6_4.2.2.2 (tab_f4 ha1) rfl ?_
  refine R_iconst (pc' := 65) dX6_copyFrom_64 rfl ?_
  refine R_aload_n (pc' := 66) dX6_copyFrom_65 rfl (tab_s ht).1 rfl ?_
  refine Q_getfr (v := (t + 5)) (J := 4) (pc' := 69) rfl dX6_copyFrom_66 l_RX6_24 (tab_s ht) fd6_4.1 fd6_4.2.1 fd6_4.2.2.1 fd6_4.2.2.2 (tab_f4 ht) rfl ?_
  refine R_iconst (pc' := 70) dX6_copyFrom_69 rfl ?_
  refine R_bipush (pc' := 72) dX6_copyFrom_70 (by decide) rfl ?_
  have hs6 := h.1
  have h := h.2
  refine Q_cpyz (pc' := 75) dX6_copyFrom_72 l_RX6_49 (by omega) (Nat.le_of_ble_eq_true rfl) (tab_4 ha1) (tab_4 ht) (by decide) (by decide) (by decide) hs6 rfl (fun c5 hc5 => ?_)
  have h := h c5 hc5
  refine R_aload_n (pc' := 76) dX6_copyFrom_75 rfl (tab_s ha1).1 rfl ?_
  refine Q_getfr (v := (a1 + 6)) (J := 5) (pc' := 79) rfl dX6_copyFrom_76 l_RX6_28 (tab_s ha1) fd6_5.1 fd6_5.2.1 fd6_5.2.2.1 fd6_5.2.2.2 (tab_f5 ha1) rfl ?_
  refine R_iconst (pc' := 80) dX6_copyFrom_79 rfl ?_
  refine R_aload_n (pc' := 81) dX6_copyFrom_80 rfl (tab_s ht).1 rfl ?_
  refine Q_getfr (v := (t + 6)) (J := 5) (pc' := 84) rfl dX6_copyFrom_81 l_RX6_28 (tab_s ht) fd6_5.1 fd6_5.2.1 fd6_5.2.2.1 fd6_5.2.2.2 (tab_f5 ht) rfl ?_
  refine R_iconst (pc' := 85) dX6_copyFrom_84 rfl ?_
  refine R_bipush (pc' := 87) dX6_copyFrom_85 (by decide) rfl ?_
  have hs8 := h.1
  have h := h.2
  refine Q_cpyz (pc' := 90) dX6_copyFrom_87 l_RX6_49 (by omega) (Nat.le_of_ble_eq_true rfl) (tab_5 ha1) (tab_5 ht) (by decide) (by decide) (by decide) hs8 rfl (fun c7 hc7 => ?_)
  have h := h c7 hc7
  refine R_aload_n (pc' := 91) dX6_copyFrom_90 rfl (tab_s ha1).1 rfl ?_
  refine Q_getfr (v := (a1 + 7)) (J := 6) (pc' := 94) rfl dX6_copyFrom_91 l_RX6_31 (tab_s ha1) fd6_6.1 fd6_6.2.1 fd6_6.2.2.1 fd6_6.2.2.2 (tab_f6 ha1) rfl ?_
  refine R_iconst (pc' := 95) dX6_copyFrom_94 rfl ?_
  refine R_aload_n (pc' := 96) dX6_copyFrom_95 rfl (tab_s ht).1 rfl ?_
  refine Q_getfr (v := (t + 7)) (J := 6) (pc' := 99) rfl dX6_copyFrom_96 l_RX6_31 (tab_s ht) fd6_6.1 fd6_6.2.1 fd6_6.2.2.1 fd6_6.2.2.2 (tab_f6 ht) rfl ?_
  refine R_iconst (pc' := 100) dX6_copyFrom_99 rfl ?_
  refine R_bipush (pc' := 102) dX6_copyFrom_100 (by decide) rfl ?_
  refine Q_cpyi (pc' := 105) dX6_copyFrom_102 l_RX6_49 (by omega) (Nat.le_of_ble_eq_true rfl) (tab_6 ha1) (tab_6 ht) (by decide) (by decide) (by decide) rfl (fun c9 hc9 => ?_)
  have h := h c9 hc9
  refine R_aload_n (pc' := 106) dX6_copyFrom_105 rfl (tab_s ha1).1 rfl ?_
  refine Q_getfr (v := (a1 + 8)) (J := 7) (pc' := 109) rfl dX6_copyFrom_106 l_RX6_34 (tab_s ha1) fd6_7.1 fd6_7.2.1 fd6_7.2.2.1 fd6_7.2.2.2 (tab_f7 ha1) rfl ?_
  refine R_iconst (pc' := 110) dX6_copyFrom_109 rfl ?_
  refine R_aload_n (pc' := 111) dX6_copyFrom_110 rfl (tab_s ht).1 rfl ?_
  refine Q_getfr (v := (t + 8)) (J := 7) (pc' := 114) rfl dX6_copyFrom_111 l_RX6_34 (tab_s ht) fd6_7.1 fd6_7.2.1 fd6_7.2.2.1 fd6_7.2.2.2 (tab_f7 ht) rfl ?_
  refine R_iconst (pc' := 115) dX6_copyFrom_114 rfl ?_
  refine R_bipush (pc' := 117) dX6_copyFrom_115 (by decide) rfl ?_
  refine Q_cpyi (pc' := 120) dX6_copyFrom_117 l_RX6_49 (by omega) (Nat.le_of_ble_eq_true rfl) (tab_7 ha1) (tab_7 ht) (by decide) (by decide) (by decide) rfl (fun c10 hc10 => ?_)
  have h := h c10 hc10
  refine R_aload_n (pc' := 121) dX6_copyFrom_120 rfl (tab_s ha1).1 rfl ?_
  refine Q_getfr (v := (a1 + 9)) (J := 8) (pc' := 124) rfl dX6_copyFrom_121 l_RX6_37 (tab_s ha1) fd6_8.1 fd6_8.2.1 fd6_8.2.2.1 fd6_8.2.2.2 (tab_f8 ha1) rfl ?_
  refine R_iconst (pc' := 125) dX6_copyFrom_124 rfl ?_
  refine R_aload_n (pc' := 126) dX6_copyFrom_125 rfl (tab_s ht).1 rfl ?_
  refine Q_getfr (v := (t + 9)) (J := 8) (pc' := 129) rfl dX6_copyFrom_126 l_RX6_37 (tab_s ht) fd6_8.1 fd6_8.2.1 fd6_8.2.2.1 fd6_8.2.2.2 (tab_f8 ht) rfl ?_
  refine R_iconst (pc' := 130) dX6_copyFrom_129 rfl ?_
  refine R_bipush (pc' := 132) dX6_copyFrom_130 (by decide) rfl ?_
  refine Q_cpyi (pc' := 135) dX6_copyFrom_132 l_RX6_49 (by omega) (Nat.le_of_ble_eq_true rfl) (tab_8 ha1) (tab_8 ht) (by decide) (by decide) (by decide) rfl (fun c11 hc11 => ?_)
  have h := h c11 hc11
  refine R_aload_n (pc' := 136) dX6_copyFrom_135 rfl (tab_s ht).1 rfl ?_
  refine R_aload_n (pc' := 137) dX6_copyFrom_136 rfl (tab_s ha1).1 rfl ?_
  refine Q_getfi (J := 10) (pc' := 140) rfl dX6_copyFrom_137 l_RX6_55 (tab_s ha1) fd6_10.1 fd6_10.2.1 fd6_10.2.2.1 rfl ?_
  refine Q_putfi (J := 10) (pc' := 143) rfl dX6_copyFrom_140 l_RX6_55 (tab_s ht) fd6_10.1 fd6_10.2.1 fd6_10.2.2.2.1 fd6_10.2.2.2.2 rfl (fun c12 hc12 => ?_)
  have h := h c12 hc12
  refine R_aload_n (pc' := 144) dX6_copyFrom_143 rfl (tab_s ht).1 rfl ?_
  refine R_aload_n (pc' := 145) dX6_copyFrom_144 rfl (tab_s ha1).1 rfl ?_
  refine Q_getfi (J := 11) (pc' := 148) rfl dX6_copyFrom_145 l_RX6_59 (tab_s ha1) fd6_11.1 fd6_11.2.1 fd6_11.2.2.1 rfl ?_
  refine Q_putfi (J := 11) (pc' := 151) rfl dX6_copyFrom_148 l_RX6_59 (tab_s ht) fd6_11.1 fd6_11.2.1 fd6_11.2.2.2.1 fd6_11.2.2.2.2 rfl (fun c13 hc13 => ?_)
  have h := h c13 hc13
  refine R_aload_n (pc' := 152) dX6_copyFrom_151 rfl (tab_s ht).1 rfl ?_
  refine R_aload_n (pc' := 153) dX6_copyFrom_152 rfl (tab_s ha1).1 rfl ?_
  refine Q_getfi (J := 12) (pc' := 156) rfl dX6_copyFrom_153 l_RX6_62 (tab_s ha1) fd6_12.1 fd6_12.2.1 fd6_12.2.2.1 rfl ?_
  refine Q_putfi (J := 12) (pc' := 159) rfl dX6_copyFrom_156 l_RX6_62 (tab_s ht) fd6_12.1 fd6_12.2.1 fd6_12.2.2.2.1 fd6_12.2.2.2.2 rfl (fun c14 hc14 => ?_)
  have h := h c14 hc14
  refine R_aload_n (pc' := 160) dX6_copyFrom_159 rfl (tab_s ht).1 rfl ?_
  refine R_aload_n (pc' := 161) dX6_copyFrom_160 rfl (tab_s ha1).1 rfl ?_
  have hs15 := h.1
  have h := h.2
  refine Q_getfq (J := 13) (pc' := 164) rfl dX6_copyFrom_161 l_RX6_45 (tab_s ha1) fd6_13.1 fd6_13.2.1 fd6_13.2.2.1 fd6_13.2.2.2 rfl ?_
  refine Q_putfr (J := 13) (pc' := 167) rfl dX6_copyFrom_164 l_RX6_45 (tab_s ht) fd6_13.1 fd6_13.2.1 fd6_13.2.2.2 fd6_13.2.2.1 (hou_s hs15).2.1 rfl (fun c16 hc16 => ?_)
  have h := h c16 hc16
  exact Q_ret dX6_copyFrom_167 rfl h
theorem e_X6_copyFrom {K : SK} {d : Nat} {c : ct} {Q : ct → Prop} (t : Int) (ht : isTab t) (a1 : Int) (ha1 : isTab a1) (h : WV K (d + 1) mX6_copyFrom 0 [(2, t), (2, a1)] [] c Q) : CV K (d + 1) mX6_copyFrom [(2, t), (2, a1)] c Q := CM_ofS (by decide) (Nat.le_of_ble_eq_true rfl) _ rfl h
set_option maxRecDepth 100000 in
theorem s_X6_takeIn_0 {K : SK} {d : Nat} {c : ct} {Q : ct → Int → Prop} (t : Int) (ht : isTab t) (a1 : Int) (a2 : Int) (h : CI K d mX6_freeSeat [(2, t)] c (fun c1 r2 => (ir (c t 10)) ∧ (6 ≤ (c t 10) → Q c1 (-1)) ∧ (¬ (6 ≤ (c t 10)) → (ir r2) ∧ (0 ≤ r2 → ((0 ≤ (c t 10) ∧ (c t 10) < 6)) ∧ ∀ c7 : ct, c7 = up2 c1 (t + 1) (c t 10) a1 → ((0 ≤ (c t 10) ∧ (c t 10) < 6)) ∧ ∀ c9 : ct, c9 = up2 c7 (t + 2) (c t 10) a2 → CV K d mX6_place [(2, t), (0, (c t 10)), (0, r2)] c9 (fun c11 => ∀ c13 : ct, c13 = up2 c11 t 10 ((c11 t 10) + 1) → CV K d mX6_reckon [(2, t)] c13 (fun c14 => Q c14 (c t 10)))) ∧ (¬ (0 ≤ r2) → Q c1 (-1))))) : WI K (d + 1) mX6_takeIn 0 [(2, t), (0, a1), (0, a2), (9, 0), (9, 0)] [] c Q := by
  refine R_aload_n (pc' := 1) dX6_takeIn_0 rfl (tab_s ht).1 rfl ?_
  refine Q_getfi (J := 10) (pc' := 4) rfl dX6_takeIn_1 l_RX6_55 (tab_s ht) fd6_10.1 fd6_10.2.1 fd6_10.2.2.1 rfl ?_
  refine R_istore_n (L' := [_, _, _, _, _]) (pc' := 5) dX6_takeIn_4 (by decide) rfl rfl rfl ?_
  refine R_aload_n (pc' := 6) dX6_takeIn_5 rfl (tab_s ht).1 rfl ?_
  refine Q_callVI (vs := []) (st := []) (pc' := 9) dX6_takeIn_6 l_RX6_65 (tab_s ht) (by decide) rfl rfl (Nat.le_of_ble_eq_true rfl) rfl (Nat.zero_le _) (Nat.zero_le _) rfl ?_
  refine CI.mono h (fun c1 r2 h => ?_)
  refine R_istore (L' := [_, _, _, _, _]) (pc' := 11) dX6_takeIn_9 (by decide) rfl rfl rfl ?_
  refine R_iload_n (pc' := 12) dX6_takeIn_11 rfl rfl ?_
  refine R_bipush (pc' := 14) dX6_takeIn_12 (by decide) rfl ?_
  have hs4 := h.1
  have h := h.2
  refine R_icmp_ge (tgt := 22) (pc' := 17) dX6_takeIn_14 (by decide) hs4 (ir_l (by decide) (by decide)) rfl (fun hc3 => ?_) (fun hc3 => ?_)
  · have h := h.1 hc3
    refine R_iconst (pc' := 23) dX6_takeIn_22 rfl ?_
    exact Q_iret dX6_takeIn_23 rfl h
  · have h := h.2 hc3
    refine R_iload (pc' := 19) dX6_takeIn_17 rfl rfl ?_
    have hs6 := h.1
    have h := h.2
    refine R_if_ge (tgt := 24) (pc' := 22) dX6_takeIn_19 (by decide) hs6  rfl (fun hc5 => ?_) (fun hc5 => ?_)
    · have h := h.1 hc5
      refine R_aload_n (pc' := 25) dX6_takeIn_24 rfl (tab_s ht).1 rfl ?_
      refine Q_getfr (v := (t + 1)) (J := 0) (pc' := 28) rfl dX6_takeIn_25 l_RX6_9 (tab_s ht) fd6_0.1 fd6_0.2.1 fd6_0.2.2.1 fd6_0.2.2.2 (tab_f0 ht) rfl ?_
      refine R_iload_n (pc' := 29) dX6_takeIn_28 rfl rfl ?_
      refine R_iload_n (pc' := 30) dX6_takeIn_29 rfl rfl ?_
      have hs8 := h.1
      have h := h.2
      refine Q_iastore (N := 6) (pc' := 31) rfl dX6_takeIn_30 (tab_0 ht) (by decide) hs8  rfl (fun c7 hc7 => ?_)
      have h := h c7 hc7
      refine R_aload_n (pc' := 32) dX6_takeIn_31 rfl (tab_s ht).1 rfl ?_
      refine Q_getfr (v := (t + 2)) (J := 1) (pc' := 35) rfl dX6_takeIn_32 l_RX6_15 (tab_s ht) fd6_1.1 fd6_1.2.1 fd6_1.2.2.1 fd6_1.2.2.2 (tab_f1 ht) rfl ?_
      refine R_iload_n (pc' := 36) dX6_takeIn_35 rfl rfl ?_
      refine R_iload_n (pc' := 37) dX6_takeIn_36 rfl rfl ?_
      have hs10 := h.1
      have h := h.2
      refine Q_iastore (N := 6) (pc' := 38) rfl dX6_takeIn_37 (tab_1 ht) (by decide) hs10  rfl (fun c9 hc9 => ?_)
      have h := h c9 hc9
      refine R_aload_n (pc' := 39) dX6_takeIn_38 rfl (tab_s ht).1 rfl ?_
      refine R_iload_n (pc' := 40) dX6_takeIn_39 rfl rfl ?_
      refine R_iload (pc' := 42) dX6_takeIn_40 rfl rfl ?_
      refine Q_callVV (vs := [(0, (c t 10)), (0, r2)]) (st := []) (pc' := 45) dX6_takeIn_42 l_RX6_69 (tab_s ht) (by decide) rfl rfl (Nat.le_of_ble_eq_true rfl) rfl (Nat.zero_le _) (Nat.zero_le _) rfl ?_
      refine CV.mono h (fun c11 h => ?_)
      refine R_aload_n (pc' := 46) dX6_takeIn_45 rfl (tab_s ht).1 rfl ?_
      refine R_dup (pc' := 47) dX6_takeIn_46 (by simp) rfl ?_
      refine Q_getfi (J := 10) (pc' := 50) rfl dX6_takeIn_47 l_RX6_55 (tab_s ht) fd6_10.1 fd6_10.2.1 fd6_10.2.2.1 rfl ?_
      refine R_iconst (pc' := 51) dX6_takeIn_50 rfl ?_
      refine R_iadd (pc' := 52) dX6_takeIn_51 rfl ?_
      refine Q_putfi (J := 10) (pc' := 55) rfl dX6_takeIn_52 l_RX6_55 (tab_s ht) fd6_10.1 fd6_10.2.1 fd6_10.2.2.2.1 fd6_10.2.2.2.2 rfl (fun c13 hc13 => ?_)
      have h := h c13 hc13
      refine R_aload_n (pc' := 56) dX6_takeIn_55 rfl (tab_s ht).1 rfl ?_
      refine Q_callVV (vs := []) (st := []) (pc' := 59) dX6_takeIn_56 l_RX6_73 (tab_s ht) (by decide) rfl rfl (Nat.le_of_ble_eq_true rfl) rfl (Nat.zero_le _) (Nat.zero_le _) rfl ?_
      refine CV.mono h (fun c14 h => ?_)
      refine R_iload_n (pc' := 60) dX6_takeIn_59 rfl rfl ?_
      exact Q_iret dX6_takeIn_60 rfl h
    · have h := h.2 hc5
      refine R_iconst (pc' := 23) dX6_takeIn_22 rfl ?_
      exact Q_iret dX6_takeIn_23 rfl h
theorem e_X6_takeIn {K : SK} {d : Nat} {c : ct} {Q : ct → Int → Prop} (t : Int) (ht : isTab t) (a1 : Int) (a2 : Int) (h : WI K (d + 1) mX6_takeIn 0 [(2, t), (0, a1), (0, a2), (9, 0), (9, 0)] [] c Q) : CI K (d + 1) mX6_takeIn [(2, t), (0, a1), (0, a2)] c Q := CM_ofS (by decide) (Nat.le_of_ble_eq_true rfl) _ rfl h
set_option maxRecDepth 100000 in
theorem s_X6_freeSeat_0 {K : SK} {d : Nat} {c : ct} {Q : ct → Int → Prop} (t : Int) (ht : isTab t) (h : WI K (d + 1) mX6_freeSeat 2 [(2, t), (0, 0)] [] c Q) : WI K (d + 1) mX6_freeSeat 0 [(2, t), (9, 0)] [] c Q := by
  refine R_iconst (pc' := 1) dX6_freeSeat_0 rfl ?_
  refine R_istore_n (L' := [_, _]) (pc' := 2) dX6_freeSeat_1 (by decide) rfl rfl rfl ?_
  exact WP_wk (wk_e (wk_e wk_n)) h
set_option maxRecDepth 100000 in
theorem s_X6_freeSeat_2 {K : SK} {d : Nat} {c : ct} {Q : ct → Int → Prop} (t : Int) (ht : isTab t) (a1 : Int) (h : (ir a1) ∧ (6 ≤ a1 → Q c (-1)) ∧ (¬ (6 ≤ a1) → ((0 ≤ a1 ∧ a1 < 6)) ∧ (ir (c (t + 8) a1)) ∧ (0 ≤ (c (t + 8) a1) → WI K (d + 1) mX6_freeSeat 2 [(2, t), (0, (a1 + 1))] [] c Q) ∧ (¬ (0 ≤ (c (t + 8) a1)) → Q c a1))) : WI K (d + 1) mX6_freeSeat 2 [(2, t), (0, a1)] [] c Q := by
  refine R_iload_n (pc' := 3) dX6_freeSeat_2 rfl rfl ?_
  refine R_bipush (pc' := 5) dX6_freeSeat_3 (by decide) rfl ?_
  have hs2 := h.1
  have h := h.2
  refine R_icmp_ge (tgt := 25) (pc' := 8) dX6_freeSeat_5 (by decide) hs2 (ir_l (by decide) (by decide)) rfl (fun hc1 => ?_) (fun hc1 => ?_)
  · have h := h.1 hc1
    refine R_iconst (pc' := 26) dX6_freeSeat_25 rfl ?_
    exact Q_iret dX6_freeSeat_26 rfl h
  · have h := h.2 hc1
    refine R_aload_n (pc' := 9) dX6_freeSeat_8 rfl (tab_s ht).1 rfl ?_
    refine Q_getfr (v := (t + 8)) (J := 7) (pc' := 12) rfl dX6_freeSeat_9 l_RX6_34 (tab_s ht) fd6_7.1 fd6_7.2.1 fd6_7.2.2.1 fd6_7.2.2.2 (tab_f7 ht) rfl ?_
    refine R_iload_n (pc' := 13) dX6_freeSeat_12 rfl rfl ?_
    have hs3 := h.1
    have h := h.2
    refine Q_iaload (N := 6) (pc' := 14) rfl dX6_freeSeat_13 (tab_7 ht) (by decide) hs3 rfl ?_
    have hs5 := h.1
    have h := h.2
    refine R_if_ge (tgt := 19) (pc' := 17) dX6_freeSeat_14 (by decide) hs5  rfl (fun hc4 => ?_) (fun hc4 => ?_)
    · have h := h.1 hc4
      refine R_iinc (L' := [_, _]) (pc' := 22) dX6_freeSeat_19 rfl (by decide) rfl rfl rfl ?_
      refine R_goto (tgt := 2) dX6_freeSeat_22 (by decide) ?_
      exact WP_wk (wk_e (wk_e wk_n)) h
    · have h := h.2 hc4
      refine R_iload_n (pc' := 18) dX6_freeSeat_17 rfl rfl ?_
      exact Q_iret dX6_freeSeat_18 rfl h
theorem e_X6_freeSeat {K : SK} {d : Nat} {c : ct} {Q : ct → Int → Prop} (t : Int) (ht : isTab t) (h : WI K (d + 1) mX6_freeSeat 0 [(2, t), (9, 0)] [] c Q) : CI K (d + 1) mX6_freeSeat [(2, t)] c Q := CM_ofS (by decide) (Nat.le_of_ble_eq_true rfl) _ rfl h
set_option maxRecDepth 100000 in
theorem s_X6_place_0 {K : SK} {d : Nat} {c : ct} {Q : ct → Prop} (t : Int) (ht : isTab t) (a1 : Int) (a2 : Int) (h : ((0 ≤ a1 ∧ a1 < 6)) ∧ ∀ c1 : ct, c1 = up2 c (t + 3) a1 a2 → ((0 ≤ a2 ∧ a2 < 6)) ∧ ∀ c3 : ct, c3 = up2 c1 (t + 8) a2 a1 → Q c3) : WV K (d + 1) mX6_place 0 [(2, t), (0, a1), (0, a2)] [] c Q := by
  refine R_aload_n (pc' := 1) dX6_place_0 rfl (tab_s ht).1 rfl ?_
  refine Q_getfr (v := (t + 3)) (J := 2) (pc' := 4) rfl dX6_place_1 l_RX6_18 (tab_s ht) fd6_2.1 fd6_2.2.1 fd6_2.2.2.1 fd6_2.2.2.2 (tab_f2 ht) rfl ?_
  refine R_iload_n (pc' := 5) dX6_place_4 rfl rfl ?_
  refine R_iload_n (pc' := 6) dX6_place_5 rfl rfl ?_
  have hs2 := h.1
  have h := h.2
  refine Q_iastore (N := 6) (pc' := 7) rfl dX6_place_6 (tab_2 ht) (by decide) hs2  rfl (fun c1 hc1 => ?_)
  have h := h c1 hc1
  refine R_aload_n (pc' := 8) dX6_place_7 rfl (tab_s ht).1 rfl ?_
  refine Q_getfr (v := (t + 8)) (J := 7) (pc' := 11) rfl dX6_place_8 l_RX6_34 (tab_s ht) fd6_7.1 fd6_7.2.1 fd6_7.2.2.1 fd6_7.2.2.2 (tab_f7 ht) rfl ?_
  refine R_iload_n (pc' := 12) dX6_place_11 rfl rfl ?_
  refine R_iload_n (pc' := 13) dX6_place_12 rfl rfl ?_
  have hs4 := h.1
  have h := h.2
  refine Q_iastore (N := 6) (pc' := 14) rfl dX6_place_13 (tab_7 ht) (by decide) hs4  rfl (fun c3 hc3 => ?_)
  have h := h c3 hc3
  exact Q_ret dX6_place_14 rfl h
theorem e_X6_place {K : SK} {d : Nat} {c : ct} {Q : ct → Prop} (t : Int) (ht : isTab t) (a1 : Int) (a2 : Int) (h : WV K (d + 1) mX6_place 0 [(2, t), (0, a1), (0, a2)] [] c Q) : CV K (d + 1) mX6_place [(2, t), (0, a1), (0, a2)] c Q := CM_ofS (by decide) (Nat.le_of_ble_eq_true rfl) _ rfl h
set_option maxRecDepth 100000 in
theorem s_X6_moveTo_0 {K : SK} {d : Nat} {c : ct} {Q : ct → Prop} (t : Int) (ht : isTab t) (a1 : Int) (a2 : Int) (h : ((0 ≤ a1 ∧ a1 < 6)) ∧ ((0 ≤ a2 ∧ a2 < 6)) ∧ ((0 ≤ (c (t + 3) a1) ∧ (c (t + 3) a1) < 6)) ∧ ∀ c3 : ct, c3 = up2 c (t + 8) (c (t + 3) a1) (-1) → (ir (c (t + 8) a2)) ∧ ((c (t + 8) a2) < 0 → CV K d mX6_place [(2, t), (0, a1), (0, a2)] c3 (fun c7 => Q c7)) ∧ (¬ ((c (t + 8) a2) < 0) → CV K d mX6_place [(2, t), (0, (c (t + 8) a2)), (0, (c (t + 3) a1))] c3 (fun c9 => CV K d mX6_place [(2, t), (0, a1), (0, a2)] c9 (fun c11 => Q c11)))) : WV K (d + 1) mX6_moveTo 0 [(2, t), (0, a1), (0, a2), (9, 0), (9, 0)] [] c Q := by
  refine R_aload_n (pc' := 1) dX6_moveTo_0 rfl (tab_s ht).1 rfl ?_
  refine Q_getfr (v := (t + 3)) (J := 2) (pc' := 4) rfl dX6_moveTo_1 l_RX6_18 (tab_s ht) fd6_2.1 fd6_2.2.1 fd6_2.2.2.1 fd6_2.2.2.2 (tab_f2 ht) rfl ?_
  refine R_iload_n (pc' := 5) dX6_moveTo_4 rfl rfl ?_
  have hs1 := h.1
  have h := h.2
  refine Q_iaload (N := 6) (pc' := 6) rfl dX6_moveTo_5 (tab_2 ht) (by decide) hs1 rfl ?_
  refine R_istore_n (L' := [_, _, _, _, _]) (pc' := 7) dX6_moveTo_6 (by decide) rfl rfl rfl ?_
  refine R_aload_n (pc' := 8) dX6_moveTo_7 rfl (tab_s ht).1 rfl ?_
  refine Q_getfr (v := (t + 8)) (J := 7) (pc' := 11) rfl dX6_moveTo_8 l_RX6_34 (tab_s ht) fd6_7.1 fd6_7.2.1 fd6_7.2.2.1 fd6_7.2.2.2 (tab_f7 ht) rfl ?_
  refine R_iload_n (pc' := 12) dX6_moveTo_11 rfl rfl ?_
  have hs2 := h.1
  have h := h.2
  refine Q_iaload (N := 6) (pc' := 13) rfl dX6_moveTo_12 (tab_7 ht) (by decide) hs2 rfl ?_
  refine R_istore (L' := [_, _, _, _, _]) (pc' := 15) dX6_moveTo_13 (by decide) rfl rfl rfl ?_
  refine R_aload_n (pc' := 16) dX6_moveTo_15 rfl (tab_s ht).1 rfl ?_
  refine Q_getfr (v := (t + 8)) (J := 7) (pc' := 19) rfl dX6_moveTo_16 l_RX6_34 (tab_s ht) fd6_7.1 fd6_7.2.1 fd6_7.2.2.1 fd6_7.2.2.2 (tab_f7 ht) rfl ?_
  refine R_iload_n (pc' := 20) dX6_moveTo_19 rfl rfl ?_
  refine R_iconst (pc' := 21) dX6_moveTo_20 rfl ?_
  have hs4 := h.1
  have h := h.2
  refine Q_iastore (N := 6) (pc' := 22) rfl dX6_moveTo_21 (tab_7 ht) (by decide) hs4  rfl (fun c3 hc3 => ?_)
  have h := h c3 hc3
  refine R_iload (pc' := 24) dX6_moveTo_22 rfl rfl ?_
  have hs6 := h.1
  have h := h.2
  refine R_if_lt (tgt := 34) (pc' := 27) dX6_moveTo_24 (by decide) hs6  rfl (fun hc5 => ?_) (fun hc5 => ?_)
  · have h := h.1 hc5
    refine R_aload_n (pc' := 35) dX6_moveTo_34 rfl (tab_s ht).1 rfl ?_
    refine R_iload_n (pc' := 36) dX6_moveTo_35 rfl rfl ?_
    refine R_iload_n (pc' := 37) dX6_moveTo_36 rfl rfl ?_
    refine Q_callVV (vs := [(0, a1), (0, a2)]) (st := []) (pc' := 40) dX6_moveTo_37 l_RX6_69 (tab_s ht) (by decide) rfl rfl (Nat.le_of_ble_eq_true rfl) rfl (Nat.zero_le _) (Nat.zero_le _) rfl ?_
    refine CV.mono h (fun c7 h => ?_)
    exact Q_ret dX6_moveTo_40 rfl h
  · have h := h.2 hc5
    refine R_aload_n (pc' := 28) dX6_moveTo_27 rfl (tab_s ht).1 rfl ?_
    refine R_iload (pc' := 30) dX6_moveTo_28 rfl rfl ?_
    refine R_iload_n (pc' := 31) dX6_moveTo_30 rfl rfl ?_
    refine Q_callVV (vs := [(0, (c (t + 8) a2)), (0, (c (t + 3) a1))]) (st := []) (pc' := 34) dX6_moveTo_31 l_RX6_69 (tab_s ht) (by decide) rfl rfl (Nat.le_of_ble_eq_true rfl) rfl (Nat.zero_le _) (Nat.zero_le _) rfl ?_
    refine CV.mono h (fun c9 h => ?_)
    refine R_aload_n (pc' := 35) dX6_moveTo_34 rfl (tab_s ht).1 rfl ?_
    refine R_iload_n (pc' := 36) dX6_moveTo_35 rfl rfl ?_
    refine R_iload_n (pc' := 37) dX6_moveTo_36 rfl rfl ?_
    refine Q_callVV (vs := [(0, a1), (0, a2)]) (st := []) (pc' := 40) dX6_moveTo_37 l_RX6_69 (tab_s ht) (by decide) rfl rfl (Nat.le_of_ble_eq_true rfl) rfl (Nat.zero_le _) (Nat.zero_le _) rfl ?_
    refine CV.mono h (fun c11 h => ?_)
    exact Q_ret dX6_moveTo_40 rfl h
theorem e_X6_moveTo {K : SK} {d : Nat} {c : ct} {Q : ct → Prop} (t : Int) (ht : isTab t) (a1 : Int) (a2 : Int) (h : WV K (d + 1) mX6_moveTo 0 [(2, t), (0, a1), (0, a2), (9, 0), (9, 0)] [] c Q) : CV K (d + 1) mX6_moveTo [(2, t), (0, a1), (0, a2)] c Q := CM_ofS (by decide) (Nat.le_of_ble_eq_true rfl) _ rfl h
set_option maxRecDepth 100000 in
theorem s_X6_hold_0 {K : SK} {d : Nat} {c : ct} {Q : ct → Prop} (t : Int) (ht : isTab t) (a1 : Int) (ha1 : isHou a1) (h : ∀ c1 : ct, c1 = up2 c t 13 a1 → CV K d mX6_reckon [(2, t)] c1 (fun c2 => Q c2)) : WV K (d + 1) mX6_hold 0 [(2, t), (2, a1)] [] c Q := by
  refine R_aload_n (pc' := 1) dX6_hold_0 rfl (tab_s ht).1 rfl ?_
  refine R_aload_n (pc' := 2) dX6_hold_1 rfl (hou_s ha1).1 rfl ?_
  refine Q_putfr (J := 13) (pc' := 5) rfl dX6_hold_2 l_RX6_45 (tab_s ht) fd6_13.1 fd6_13.2.1 fd6_13.2.2.2 fd6_13.2.2.1 (hou_s ha1).2.1 rfl (fun c1 hc1 => ?_)
  have h := h c1 hc1
  refine R_aload_n (pc' := 6) dX6_hold_5 rfl (tab_s ht).1 rfl ?_
  refine Q_callVV (vs := []) (st := []) (pc' := 9) dX6_hold_6 l_RX6_73 (tab_s ht) (by decide) rfl rfl (Nat.le_of_ble_eq_true rfl) rfl (Nat.zero_le _) (Nat.zero_le _) rfl ?_
  refine CV.mono h (fun c2 h => ?_)
  exact Q_ret dX6_hold_9 rfl h
theorem e_X6_hold {K : SK} {d : Nat} {c : ct} {Q : ct → Prop} (t : Int) (ht : isTab t) (a1 : Int) (ha1 : isHou a1) (h : WV K (d + 1) mX6_hold 0 [(2, t), (2, a1)] [] c Q) : CV K (d + 1) mX6_hold [(2, t), (2, a1)] c Q := CM_ofS (by decide) (Nat.le_of_ble_eq_true rfl) _ rfl h
set_option maxRecDepth 100000 in
theorem s_X6_becomeV_0 {K : SK} {d : Nat} {c : ct} {Q : ct → Prop} (t : Int) (ht : isTab t) (a1 : Int) (a2 : Int) (h : ((0 ≤ a1 ∧ a1 < 6)) ∧ ∀ c1 : ct, c1 = up2 c (t + 2) a1 a2 → CV K d mX6_reckon [(2, t)] c1 (fun c3 => Q c3)) : WV K (d + 1) mX6_becomeV 0 [(2, t), (0, a1), (0, a2)] [] c Q := by
  refine R_aload_n (pc' := 1) dX6_becomeV_0 rfl (tab_s ht).1 rfl ?_
  refine Q_getfr (v := (t + 2)) (J := 1) (pc' := 4) rfl dX6_becomeV_1 l_RX6_15 (tab_s ht) fd6_1.1 fd6_1.2.1 fd6_1.2.2.1 fd6_1.2.2.2 (tab_f1 ht) rfl ?_
  refine R_iload_n (pc' := 5) dX6_becomeV_4 rfl rfl ?_
  refine R_iload_n (pc' := 6) dX6_becomeV_5 rfl rfl ?_
  have hs2 := h.1
  have h := h.2
  refine Q_iastore (N := 6) (pc' := 7) rfl dX6_becomeV_6 (tab_1 ht) (by decide) hs2  rfl (fun c1 hc1 => ?_)
  have h := h c1 hc1
  refine R_aload_n (pc' := 8) dX6_becomeV_7 rfl (tab_s ht).1 rfl ?_
  refine Q_callVV (vs := []) (st := []) (pc' := 11) dX6_becomeV_8 l_RX6_73 (tab_s ht) (by decide) rfl rfl (Nat.le_of_ble_eq_true rfl) rfl (Nat.zero_le _) (Nat.zero_le _) rfl ?_
  refine CV.mono h (fun c3 h => ?_)
  exact Q_ret dX6_becomeV_11 rfl h
theorem e_X6_becomeV {K : SK} {d : Nat} {c : ct} {Q : ct → Prop} (t : Int) (ht : isTab t) (a1 : Int) (a2 : Int) (h : WV K (d + 1) mX6_becomeV 0 [(2, t), (0, a1), (0, a2)] [] c Q) : CV K (d + 1) mX6_becomeV [(2, t), (0, a1), (0, a2)] c Q := CM_ofS (by decide) (Nat.le_of_ble_eq_true rfl) _ rfl h
set_option maxRecDepth 100000 in
theorem s_X6_reckon_0 {K : SK} {d : Nat} {c : ct} {Q : ct → Prop} (t : Int) (ht : isTab t) (h : (ir (c t 12)) ∧ ∀ c2 : ct, c2 = up2 c (t + 10) 5 (Int.tmod (c t 12) 10) → WV K (d + 1) mX6_reckon 15 [(2, t), (0, 0), (9, 0)] [] c2 Q) : WV K (d + 1) mX6_reckon 0 [(2, t), (9, 0), (9, 0)] [] c Q := by
  refine R_aload_n (pc' := 1) dX6_reckon_0 rfl (tab_s ht).1 rfl ?_
  refine Q_getfr (v := (t + 10)) (J := 9) (pc' := 4) rfl dX6_reckon_1 l_RX6_42 (tab_s ht) fd6_9.1 fd6_9.2.1 fd6_9.2.2.1 fd6_9.2.2.2 (tab_f9 ht) rfl ?_
  refine R_iconst (pc' := 5) dX6_reckon_4 rfl ?_
  refine R_aload_n (pc' := 6) dX6_reckon_5 rfl (tab_s ht).1 rfl ?_
  refine Q_getfi (J := 12) (pc' := 9) rfl dX6_reckon_6 l_RX6_62 (tab_s ht) fd6_12.1 fd6_12.2.1 fd6_12.2.2.1 rfl ?_
  refine R_bipush (pc' := 11) dX6_reckon_9 (by decide) rfl ?_
  have hs1 := h.1
  have h := h.2
  refine R_irem (pc' := 12) dX6_reckon_11 (by decide) hs1 (ir_l (by decide) (by decide)) rfl ?_
  refine Q_iastore (N := 6) (pc' := 13) rfl dX6_reckon_12 (tab_9 ht) (by decide) (by decide)  rfl (fun c2 hc2 => ?_)
  have h := h c2 hc2
  refine R_iconst (pc' := 14) dX6_reckon_13 rfl ?_
  refine R_istore_n (L' := [_, _, _]) (pc' := 15) dX6_reckon_14 (by decide) rfl rfl rfl ?_
  exact WP_wk (wk_e (wk_e (wk_u wk_n))) h
set_option maxRecDepth 100000 in
theorem s_X6_reckon_15 {K : SK} {d : Nat} {c : ct} {Q : ct → Prop} (t : Int) (ht : isTab t) (a1 : Int) (h : (ir a1 ∧ ir (c t 10)) ∧ ((c t 10) ≤ a1 → Q c) ∧ (¬ ((c t 10) ≤ a1) → ∀ c3 : ct, c3 = up2 c (t + 10) 0 a1 → ((0 ≤ a1 ∧ a1 < 6)) ∧ ∀ c5 : ct, c5 = up2 c3 (t + 10) 2 (c3 (t + 1) a1) → ((0 ≤ a1 ∧ a1 < 6)) ∧ ∀ c7 : ct, c7 = up2 c5 (t + 10) 4 (c5 (t + 2) a1) → WV K (d + 1) mX6_reckon 56 [(2, t), (0, a1), (0, 0)] [] c7 Q)) : WV K (d + 1) mX6_reckon 15 [(2, t), (0, a1), (9, 0)] [] c Q := by
  refine R_iload_n (pc' := 16) dX6_reckon_15 rfl rfl ?_
  refine R_aload_n (pc' := 17) dX6_reckon_16 rfl (tab_s ht).1 rfl ?_
  refine Q_getfi (J := 10) (pc' := 20) rfl dX6_reckon_17 l_RX6_55 (tab_s ht) fd6_10.1 fd6_10.2.1 fd6_10.2.2.1 rfl ?_
  have hs2 := h.1
  have h := h.2
  refine R_icmp_ge (tgt := 117) (pc' := 23) dX6_reckon_20 (by decide) hs2.1 hs2.2 rfl (fun hc1 => ?_) (fun hc1 => ?_)
  · have h := h.1 hc1
    exact Q_ret dX6_reckon_117 rfl h
  · have h := h.2 hc1
    refine R_aload_n (pc' := 24) dX6_reckon_23 rfl (tab_s ht).1 rfl ?_
    refine Q_getfr (v := (t + 10)) (J := 9) (pc' := 27) rfl dX6_reckon_24 l_RX6_42 (tab_s ht) fd6_9.1 fd6_9.2.1 fd6_9.2.2.1 fd6_9.2.2.2 (tab_f9 ht) rfl ?_
    refine R_iconst (pc' := 28) dX6_reckon_27 rfl ?_
    refine R_iload_n (pc' := 29) dX6_reckon_28 rfl rfl ?_
    refine Q_iastore (N := 6) (pc' := 30) rfl dX6_reckon_29 (tab_9 ht) (by decide) (by decide)  rfl (fun c3 hc3 => ?_)
    have h := h c3 hc3
    refine R_aload_n (pc' := 31) dX6_reckon_30 rfl (tab_s ht).1 rfl ?_
    refine Q_getfr (v := (t + 10)) (J := 9) (pc' := 34) rfl dX6_reckon_31 l_RX6_42 (tab_s ht) fd6_9.1 fd6_9.2.1 fd6_9.2.2.1 fd6_9.2.2.2 (tab_f9 ht) rfl ?_
    refine R_iconst (pc' := 35) dX6_reckon_34 rfl ?_
    refine R_aload_n (pc' := 36) dX6_reckon_35 rfl (tab_s ht).1 rfl ?_
    refine Q_getfr (v := (t + 1)) (J := 0) (pc' := 39) rfl dX6_reckon_36 l_RX6_9 (tab_s ht) fd6_0.1 fd6_0.2.1 fd6_0.2.2.1 fd6_0.2.2.2 (tab_f0 ht) rfl ?_
    refine R_iload_n (pc' := 40) dX6_reckon_39 rfl rfl ?_
    have hs4 := h.1
    have h := h.2
    refine Q_iaload (N := 6) (pc' := 41) rfl dX6_reckon_40 (tab_0 ht) (by decide) hs4 rfl ?_
    refine Q_iastore (N := 6) (pc' := 42) rfl dX6_reckon_41 (tab_9 ht) (by decide) (by decide)  rfl (fun c5 hc5 => ?_)
    have h := h c5 hc5
    refine R_aload_n (pc' := 43) dX6_reckon_42 rfl (tab_s ht).1 rfl ?_
    refine Q_getfr (v := (t + 10)) (J := 9) (pc' := 46) rfl dX6_reckon_43 l_RX6_42 (tab_s ht) fd6_9.1 fd6_9.2.1 fd6_9.2.2.1 fd6_9.2.2.2 (tab_f9 ht) rfl ?_
    refine R_iconst (pc' := 47) dX6_reckon_46 rfl ?_
    refine R_aload_n (pc' := 48) dX6_reckon_47 rfl (tab_s ht).1 rfl ?_
    refine Q_getfr (v := (t + 2)) (J := 1) (pc' := 51) rfl dX6_reckon_48 l_RX6_15 (tab_s ht) fd6_1.1 fd6_1.2.1 fd6_1.2.2.1 fd6_1.2.2.2 (tab_f1 ht) rfl ?_
    refine R_iload_n (pc' := 52) dX6_reckon_51 rfl rfl ?_
    have hs6 := h.1
    have h := h.2
    refine Q_iaload (N := 6) (pc' := 53) rfl dX6_reckon_52 (tab_1 ht) (by decide) hs6 rfl ?_
    refine Q_iastore (N := 6) (pc' := 54) rfl dX6_reckon_53 (tab_9 ht) (by decide) (by decide)  rfl (fun c7 hc7 => ?_)
    have h := h c7 hc7
    refine R_iconst (pc' := 55) dX6_reckon_54 rfl ?_
    refine R_istore_n (L' := [_, _, _]) (pc' := 56) dX6_reckon_55 (by decide) rfl rfl rfl ?_
    exact WP_wk (wk_e (wk_e (wk_e wk_n))) h
set_option maxRecDepth 100000 in
theorem s_X6_reckon_56 {K : SK} {d : Nat} {c : ct} {Q : ct → Prop} (t : Int) (ht : isTab t) (a1 : Int) (a2 : Int) (h : (ir a2 ∧ ir (c t 10)) ∧ ((c t 10) ≤ a2 → WV K (d + 1) mX6_reckon 15 [(2, t), (0, (a1 + 1)), (9, 0)] [] c Q) ∧ (¬ ((c t 10) ≤ a2) → ∀ c3 : ct, c3 = up2 c (t + 10) 1 a2 → ((0 ≤ a2 ∧ a2 < 6)) ∧ ∀ c5 : ct, c5 = up2 c3 (t + 10) 3 (c3 (t + 1) a2) → (isHou (c5 t 13)) ∧ CI K d mX2_liking [(2, (c5 t 13)), (2, (t + 10))] c5 (fun c7 r8 => ((0 ≤ ((a1 * 6) + a2) ∧ ((a1 * 6) + a2) < 36)) ∧ ∀ c9 : ct, c9 = up2 c7 (t + 9) ((a1 * 6) + a2) r8 → WV K (d + 1) mX6_reckon 56 [(2, t), (0, a1), (0, (a2 + 1))] [] c9 Q))) : WV K (d + 1) mX6_reckon 56 [(2, t), (0, a1), (0, a2)] [] c Q := by
  refine R_iload_n (pc' := 57) dX6_reckon_56 rfl rfl ?_
  refine R_aload_n (pc' := 58) dX6_reckon_57 rfl (tab_s ht).1 rfl ?_
  refine Q_getfi (J := 10) (pc' := 61) rfl dX6_reckon_58 l_RX6_55 (tab_s ht) fd6_10.1 fd6_10.2.1 fd6_10.2.2.1 rfl ?_
  have hs2 := h.1
  have h := h.2
  refine R_icmp_ge (tgt := 111) (pc' := 64) dX6_reckon_61 (by decide) hs2.1 hs2.2 rfl (fun hc1 => ?_) (fun hc1 => ?_)
  · have h := h.1 hc1
    refine R_iinc (L' := [_, _, _]) (pc' := 114) dX6_reckon_111 rfl (by decide) rfl rfl rfl ?_
    refine R_goto (tgt := 15) dX6_reckon_114 (by decide) ?_
    exact WP_wk (wk_e (wk_e (wk_u wk_n))) h
  · have h := h.2 hc1
    refine R_aload_n (pc' := 65) dX6_reckon_64 rfl (tab_s ht).1 rfl ?_
    refine Q_getfr (v := (t + 10)) (J := 9) (pc' := 68) rfl dX6_reckon_65 l_RX6_42 (tab_s ht) fd6_9.1 fd6_9.2.1 fd6_9.2.2.1 fd6_9.2.2.2 (tab_f9 ht) rfl ?_
    refine R_iconst (pc' := 69) dX6_reckon_68 rfl ?_
    refine R_iload_n (pc' := 70) dX6_reckon_69 rfl rfl ?_
    refine Q_iastore (N := 6) (pc' := 71) rfl dX6_reckon_70 (tab_9 ht) (by decide) (by decide)  rfl (fun c3 hc3 => ?_)
    have h := h c3 hc3
    refine R_aload_n (pc' := 72) dX6_reckon_71 rfl (tab_s ht).1 rfl ?_
    refine Q_getfr (v := (t + 10)) (J := 9) (pc' := 75) rfl dX6_reckon_72 l_RX6_42 (tab_s ht) fd6_9.1 fd6_9.2.1 fd6_9.2.2.1 fd6_9.2.2.2 (tab_f9 ht) rfl ?_
    refine R_iconst (pc' := 76) dX6_reckon_75 rfl ?_
    refine R_aload_n (pc' := 77) dX6_reckon_76 rfl (tab_s ht).1 rfl ?_
    refine Q_getfr (v := (t + 1)) (J := 0) (pc' := 80) rfl dX6_reckon_77 l_RX6_9 (tab_s ht) fd6_0.1 fd6_0.2.1 fd6_0.2.2.1 fd6_0.2.2.2 (tab_f0 ht) rfl ?_
    refine R_iload_n (pc' := 81) dX6_reckon_80 rfl rfl ?_
    have hs4 := h.1
    have h := h.2
    refine Q_iaload (N := 6) (pc' := 82) rfl dX6_reckon_81 (tab_0 ht) (by decide) hs4 rfl ?_
    refine Q_iastore (N := 6) (pc' := 83) rfl dX6_reckon_82 (tab_9 ht) (by decide) (by decide)  rfl (fun c5 hc5 => ?_)
    have h := h c5 hc5
    refine R_aload_n (pc' := 84) dX6_reckon_83 rfl (tab_s ht).1 rfl ?_
    refine Q_getfr (v := (t + 9)) (J := 8) (pc' := 87) rfl dX6_reckon_84 l_RX6_37 (tab_s ht) fd6_8.1 fd6_8.2.1 fd6_8.2.2.1 fd6_8.2.2.2 (tab_f8 ht) rfl ?_
    refine R_iload_n (pc' := 88) dX6_reckon_87 rfl rfl ?_
    refine R_bipush (pc' := 90) dX6_reckon_88 (by decide) rfl ?_
    refine R_imul (pc' := 91) dX6_reckon_90 rfl ?_
    refine R_iload_n (pc' := 92) dX6_reckon_91 rfl rfl ?_
    refine R_iadd (pc' := 93) dX6_reckon_92 rfl ?_
    refine R_aload_n (pc' := 94) dX6_reckon_93 rfl (tab_s ht).1 rfl ?_
    have hs6 := h.1
    have h := h.2
    refine Q_getfq (J := 13) (pc' := 97) rfl dX6_reckon_94 l_RX6_45 (tab_s ht) fd6_13.1 fd6_13.2.1 fd6_13.2.2.1 fd6_13.2.2.2 rfl ?_
    refine R_aload_n (pc' := 98) dX6_reckon_97 rfl (tab_s ht).1 rfl ?_
    refine Q_getfr (v := (t + 10)) (J := 9) (pc' := 101) rfl dX6_reckon_98 l_RX6_42 (tab_s ht) fd6_9.1 fd6_9.2.1 fd6_9.2.2.1 fd6_9.2.2.2 (tab_f9 ht) rfl ?_
    refine Q_callVI (vs := [(2, (t + 10))]) (st := [(0, ((a1 * 6) + a2)), (2, (t + 9))]) (pc' := 104) dX6_reckon_101 l_RX6_76 (hou_s hs6) (by decide) rfl rfl (Nat.le_of_ble_eq_true rfl) rfl (Nat.zero_le _) (Nat.zero_le _) rfl ?_
    refine CI.mono h (fun c7 r8 h => ?_)
    have hs10 := h.1
    have h := h.2
    refine Q_iastore (N := 36) (pc' := 105) rfl dX6_reckon_104 (tab_8 ht) (by decide) hs10  rfl (fun c9 hc9 => ?_)
    have h := h c9 hc9
    refine R_iinc (L' := [_, _, _]) (pc' := 108) dX6_reckon_105 rfl (by decide) rfl rfl rfl ?_
    refine R_goto (tgt := 56) dX6_reckon_108 (by decide) ?_
    exact WP_wk (wk_e (wk_e (wk_e wk_n))) h
theorem e_X6_reckon {K : SK} {d : Nat} {c : ct} {Q : ct → Prop} (t : Int) (ht : isTab t) (h : WV K (d + 1) mX6_reckon 0 [(2, t), (9, 0), (9, 0)] [] c Q) : CV K (d + 1) mX6_reckon [(2, t)] c Q := CM_ofS (by decide) (Nat.le_of_ble_eq_true rfl) _ rfl h
set_option maxRecDepth 100000 in
theorem s_X6_liking_0 {K : SK} {d : Nat} {c : ct} {Q : ct → Int → Prop} (t : Int) (ht : isTab t) (a1 : Int) (a2 : Int) (h : ((0 ≤ ((a1 * 6) + a2) ∧ ((a1 * 6) + a2) < 36)) ∧ Q c (c (t + 9) ((a1 * 6) + a2))) : WI K (d + 1) mX6_liking 0 [(2, t), (0, a1), (0, a2)] [] c Q := by
  refine R_aload_n (pc' := 1) dX6_liking_0 rfl (tab_s ht).1 rfl ?_
  refine Q_getfr (v := (t + 9)) (J := 8) (pc' := 4) rfl dX6_liking_1 l_RX6_37 (tab_s ht) fd6_8.1 fd6_8.2.1 fd6_8.2.2.1 fd6_8.2.2.2 (tab_f8 ht) rfl ?_
  refine R_iload_n (pc' := 5) dX6_liking_4 rfl rfl ?_
  refine R_bipush (pc' := 7) dX6_liking_5 (by decide) rfl ?_
  refine R_imul (pc' := 8) dX6_liking_7 rfl ?_
  refine R_iload_n (pc' := 9) dX6_liking_8 rfl rfl ?_
  refine R_iadd (pc' := 10) dX6_liking_9 rfl ?_
  have hs1 := h.1
  have h := h.2
  refine Q_iaload (N := 36) (pc' := 11) rfl dX6_liking_10 (tab_8 ht) (by decide) hs1 rfl ?_
  exact Q_iret dX6_liking_11 rfl h
theorem e_X6_liking {K : SK} {d : Nat} {c : ct} {Q : ct → Int → Prop} (t : Int) (ht : isTab t) (a1 : Int) (a2 : Int) (h : WI K (d + 1) mX6_liking 0 [(2, t), (0, a1), (0, a2)] [] c Q) : CI K (d + 1) mX6_liking [(2, t), (0, a1), (0, a2)] c Q := CM_ofS (by decide) (Nat.le_of_ble_eq_true rfl) _ rfl h
set_option maxRecDepth 100000 in
theorem s_X6_neighbourAt_0 {K : SK} {d : Nat} {c : ct} {Q : ct → Int → Prop} (t : Int) (ht : isTab t) (a1 : Int) (h : ((0 ≤ a1 ∧ a1 < 6)) ∧ (ir (c (t + 8) a1)) ∧ ((c (t + 8) a1) < 0 → Q c (-1)) ∧ (¬ ((c (t + 8) a1) < 0) → ((0 ≤ (c (t + 8) a1) ∧ (c (t + 8) a1) < 6)) ∧ ((c (t + 6) (c (t + 8) a1)) = 0 → ((0 ≤ (c (t + 8) a1) ∧ (c (t + 8) a1) < 6)) ∧ ((c (t + 1) (c (t + 8) a1)) = 4 → Q c (-1)) ∧ (¬ ((c (t + 1) (c (t + 8) a1)) = 4) → ir (c (t + 1) (c (t + 8) a1)) ∧ Q c (c (t + 8) a1))) ∧ (¬ ((c (t + 6) (c (t + 8) a1)) = 0) → ir (c (t + 6) (c (t + 8) a1)) ∧ Q c (-1)))) : WI K (d + 1) mX6_neighbourAt 0 [(2, t), (0, a1), (9, 0)] [] c Q := by
  refine R_aload_n (pc' := 1) dX6_neighbourAt_0 rfl (tab_s ht).1 rfl ?_
  refine Q_getfr (v := (t + 8)) (J := 7) (pc' := 4) rfl dX6_neighbourAt_1 l_RX6_34 (tab_s ht) fd6_7.1 fd6_7.2.1 fd6_7.2.2.1 fd6_7.2.2.2 (tab_f7 ht) rfl ?_
  refine R_iload_n (pc' := 5) dX6_neighbourAt_4 rfl rfl ?_
  have hs1 := h.1
  have h := h.2
  refine Q_iaload (N := 6) (pc' := 6) rfl dX6_neighbourAt_5 (tab_7 ht) (by decide) hs1 rfl ?_
  refine R_istore_n (L' := [_, _, _]) (pc' := 7) dX6_neighbourAt_6 (by decide) rfl rfl rfl ?_
  refine R_iload_n (pc' := 8) dX6_neighbourAt_7 rfl rfl ?_
  have hs3 := h.1
  have h := h.2
  refine R_if_lt (tgt := 34) (pc' := 11) dX6_neighbourAt_8 (by decide) hs3  rfl (fun hc2 => ?_) (fun hc2 => ?_)
  · have h := h.1 hc2
    refine R_iconst (pc' := 35) dX6_neighbourAt_34 rfl ?_
    exact Q_iret dX6_neighbourAt_35 rfl h
  · have h := h.2 hc2
    refine R_aload_n (pc' := 12) dX6_neighbourAt_11 rfl (tab_s ht).1 rfl ?_
    refine Q_getfr (v := (t + 6)) (J := 5) (pc' := 15) rfl dX6_neighbourAt_12 l_RX6_28 (tab_s ht) fd6_5.1 fd6_5.2.1 fd6_5.2.2.1 fd6_5.2.2.2 (tab_f5 ht) rfl ?_
    refine R_iload_n (pc' := 16) dX6_neighbourAt_15 rfl rfl ?_
    have hs4 := h.1
    have h := h.2
    refine Q_zaload (N := 6) (pc' := 17) rfl dX6_neighbourAt_16 (tab_5 ht) (by decide) hs4 rfl ?_
    by_cases hc5 : (c (t + 6) (c (t + 8) a1)) = 0
    · have h := h.1 hc5
      refine R_neS_if (tgt := 34) (pc' := 20) dX6_neighbourAt_17 (by decide) hc5 rfl ?_
      refine R_aload_n (pc' := 21) dX6_neighbourAt_20 rfl (tab_s ht).1 rfl ?_
      refine Q_getfr (v := (t + 1)) (J := 0) (pc' := 24) rfl dX6_neighbourAt_21 l_RX6_9 (tab_s ht) fd6_0.1 fd6_0.2.1 fd6_0.2.2.1 fd6_0.2.2.2 (tab_f0 ht) rfl ?_
      refine R_iload_n (pc' := 25) dX6_neighbourAt_24 rfl rfl ?_
      have hs6 := h.1
      have h := h.2
      refine Q_iaload (N := 6) (pc' := 26) rfl dX6_neighbourAt_25 (tab_0 ht) (by decide) hs6 rfl ?_
      refine R_iconst (pc' := 27) dX6_neighbourAt_26 rfl ?_
      by_cases hc7 : (c (t + 1) (c (t + 8) a1)) = 4
      · have h := h.1 hc7
        refine R_eqS_ic (tgt := 34) (pc' := 30) dX6_neighbourAt_27 (by decide) hc7 rfl ?_
        refine R_iconst (pc' := 35) dX6_neighbourAt_34 rfl ?_
        exact Q_iret dX6_neighbourAt_35 rfl h
      · have h := h.2 hc7
        refine R_eqD_ic (tgt := 34) (pc' := 30) dX6_neighbourAt_27 (by decide) hc7 ⟨h.1, ir_l (by decide) (by decide)⟩ rfl ?_
        have h := h.2
        refine R_iload_n (pc' := 31) dX6_neighbourAt_30 rfl rfl ?_
        refine R_goto (tgt := 35) dX6_neighbourAt_31 (by decide) ?_
        exact Q_iret dX6_neighbourAt_35 rfl h
    · have h := h.2 hc5
      refine R_neD_if (tgt := 34) (pc' := 20) dX6_neighbourAt_17 (by decide) hc5 h.1 rfl ?_
      have h := h.2
      refine R_iconst (pc' := 35) dX6_neighbourAt_34 rfl ?_
      exact Q_iret dX6_neighbourAt_35 rfl h
theorem e_X6_neighbourAt {K : SK} {d : Nat} {c : ct} {Q : ct → Int → Prop} (t : Int) (ht : isTab t) (a1 : Int) (h : WI K (d + 1) mX6_neighbourAt 0 [(2, t), (0, a1), (9, 0)] [] c Q) : CI K (d + 1) mX6_neighbourAt [(2, t), (0, a1)] c Q := CM_ofS (by decide) (Nat.le_of_ble_eq_true rfl) _ rfl h
set_option maxRecDepth 100000 in
theorem s_X6_neighbours_0 {K : SK} {d : Nat} {c : ct} {Q : ct → Int → Prop} (t : Int) (ht : isTab t) (a1 : Int) (h : ((0 ≤ a1 ∧ a1 < 6)) ∧ ((0 ≤ (c (t + 3) a1) ∧ (c (t + 3) a1) < 6)) ∧ CI K d mX6_neighbourAt [(2, t), (0, (roC K 1 (Int.toNat (c (t + 3) a1))))] c (fun c3 r4 => ((0 ≤ a1 ∧ a1 < 6)) ∧ ((0 ≤ (c3 (t + 3) a1) ∧ (c3 (t + 3) a1) < 6)) ∧ CI K d mX6_neighbourAt [(2, t), (0, (roC K 2 (Int.toNat (c3 (t + 3) a1))))] c3 (fun c7 r8 => (ir r4) ∧ (0 ≤ r4 → (ir r8) ∧ (0 ≤ r8 → Q c7 (bOr (bShl 1 r4) (bShl 1 r8))) ∧ (¬ (0 ≤ r8) → Q c7 (bOr (bShl 1 r4) 0))) ∧ (¬ (0 ≤ r4) → (ir r8) ∧ (0 ≤ r8 → Q c7 (bOr 0 (bShl 1 r8))) ∧ (¬ (0 ≤ r8) → Q c7 (bOr 0 0)))))) : WI K (d + 1) mX6_neighbours 0 [(2, t), (0, a1), (9, 0), (9, 0)] [] c Q := by
  refine R_aload_n (pc' := 1) dX6_neighbours_0 rfl (tab_s ht).1 rfl ?_
  refine R_gets (i := 1) (pc' := 4) dX6_neighbours_1 l_RX6_80 (by decide) (by decide) rfl ?_
  refine R_aload_n (pc' := 5) dX6_neighbours_4 rfl (tab_s ht).1 rfl ?_
  refine Q_getfr (v := (t + 3)) (J := 2) (pc' := 8) rfl dX6_neighbours_5 l_RX6_18 (tab_s ht) fd6_2.1 fd6_2.2.1 fd6_2.2.2.1 fd6_2.2.2.2 (tab_f2 ht) rfl ?_
  refine R_iload_n (pc' := 9) dX6_neighbours_8 rfl rfl ?_
  have hs1 := h.1
  have h := h.2
  refine Q_iaload (N := 6) (pc' := 10) rfl dX6_neighbours_9 (tab_2 ht) (by decide) hs1 rfl ?_
  have hs2 := h.1
  have h := h.2
  refine Q_roload (i := 1) (N := 6) (pc' := 11) rfl dX6_neighbours_10 (by decide) hs2 rfl ?_
  refine Q_callVI (vs := [(0, (roC K 1 (Int.toNat (c (t + 3) a1))))]) (st := []) (pc' := 14) dX6_neighbours_11 l_RX6_83 (tab_s ht) (by decide) rfl rfl (Nat.le_of_ble_eq_true rfl) rfl (Nat.zero_le _) (Nat.zero_le _) rfl ?_
  refine CI.mono h (fun c3 r4 h => ?_)
  refine R_istore_n (L' := [_, _, _, _]) (pc' := 15) dX6_neighbours_14 (by decide) rfl rfl rfl ?_
  refine R_aload_n (pc' := 16) dX6_neighbours_15 rfl (tab_s ht).1 rfl ?_
  refine R_gets (i := 2) (pc' := 19) dX6_neighbours_16 l_RX6_87 (by decide) (by decide) rfl ?_
  refine R_aload_n (pc' := 20) dX6_neighbours_19 rfl (tab_s ht).1 rfl ?_
  refine Q_getfr (v := (t + 3)) (J := 2) (pc' := 23) rfl dX6_neighbours_20 l_RX6_18 (tab_s ht) fd6_2.1 fd6_2.2.1 fd6_2.2.2.1 fd6_2.2.2.2 (tab_f2 ht) rfl ?_
  refine R_iload_n (pc' := 24) dX6_neighbours_23 rfl rfl ?_
  have hs5 := h.1
  have h := h.2
  refine Q_iaload (N := 6) (pc' := 25) rfl dX6_neighbours_24 (tab_2 ht) (by decide) hs5 rfl ?_
  have hs6 := h.1
  have h := h.2
  refine Q_roload (i := 2) (N := 6) (pc' := 26) rfl dX6_neighbours_25 (by decide) hs6 rfl ?_
  refine Q_callVI (vs := [(0, (roC K 2 (Int.toNat (c3 (t + 3) a1))))]) (st := []) (pc' := 29) dX6_neighbours_26 l_RX6_83 (tab_s ht) (by decide) rfl rfl (Nat.le_of_ble_eq_true rfl) rfl (Nat.zero_le _) (Nat.zero_le _) rfl ?_
  refine CI.mono h (fun c7 r8 h => ?_)
  refine R_istore_n (L' := [_, _, _, _]) (pc' := 30) dX6_neighbours_29 (by decide) rfl rfl rfl ?_
  refine R_iload_n (pc' := 31) dX6_neighbours_30 rfl rfl ?_
  have hs10 := h.1
  have h := h.2
  refine R_if_ge (tgt := 38) (pc' := 34) dX6_neighbours_31 (by decide) hs10  rfl (fun hc9 => ?_) (fun hc9 => ?_)
  · have h := h.1 hc9
    refine R_iconst (pc' := 39) dX6_neighbours_38 rfl ?_
    refine R_iload_n (pc' := 40) dX6_neighbours_39 rfl rfl ?_
    refine R_ishl (pc' := 41) dX6_neighbours_40 rfl ?_
    refine R_iload_n (pc' := 42) dX6_neighbours_41 rfl rfl ?_
    have hs12 := h.1
    have h := h.2
    refine R_if_ge (tgt := 49) (pc' := 45) dX6_neighbours_42 (by decide) hs12  rfl (fun hc11 => ?_) (fun hc11 => ?_)
    · have h := h.1 hc11
      refine R_iconst (pc' := 50) dX6_neighbours_49 rfl ?_
      refine R_iload_n (pc' := 51) dX6_neighbours_50 rfl rfl ?_
      refine R_ishl (pc' := 52) dX6_neighbours_51 rfl ?_
      refine R_ior (pc' := 53) dX6_neighbours_52 rfl ?_
      exact Q_iret dX6_neighbours_53 rfl h
    · have h := h.2 hc11
      refine R_iconst (pc' := 46) dX6_neighbours_45 rfl ?_
      refine R_goto (tgt := 52) dX6_neighbours_46 (by decide) ?_
      refine R_ior (pc' := 53) dX6_neighbours_52 rfl ?_
      exact Q_iret dX6_neighbours_53 rfl h
  · have h := h.2 hc9
    refine R_iconst (pc' := 35) dX6_neighbours_34 rfl ?_
    refine R_goto (tgt := 41) dX6_neighbours_35 (by decide) ?_
    refine R_iload_n (pc' := 42) dX6_neighbours_41 rfl rfl ?_
    have hs14 := h.1
    have h := h.2
    refine R_if_ge (tgt := 49) (pc' := 45) dX6_neighbours_42 (by decide) hs14  rfl (fun hc13 => ?_) (fun hc13 => ?_)
    · have h := h.1 hc13
      refine R_iconst (pc' := 50) dX6_neighbours_49 rfl ?_
      refine R_iload_n (pc' := 51) dX6_neighbours_50 rfl rfl ?_
      refine R_ishl (pc' := 52) dX6_neighbours_51 rfl ?_
      refine R_ior (pc' := 53) dX6_neighbours_52 rfl ?_
      exact Q_iret dX6_neighbours_53 rfl h
    · have h := h.2 hc13
      refine R_iconst (pc' := 46) dX6_neighbours_45 rfl ?_
      refine R_goto (tgt := 52) dX6_neighbours_46 (by decide) ?_
      refine R_ior (pc' := 53) dX6_neighbours_52 rfl ?_
      exact Q_iret dX6_neighbours_53 rfl h
theorem e_X6_neighbours {K : SK} {d : Nat} {c : ct} {Q : ct → Int → Prop} (t : Int) (ht : isTab t) (a1 : Int) (h : WI K (d + 1) mX6_neighbours 0 [(2, t), (0, a1), (9, 0), (9, 0)] [] c Q) : CI K (d + 1) mX6_neighbours [(2, t), (0, a1)] c Q := CM_ofS (by decide) (Nat.le_of_ble_eq_true rfl) _ rfl h
set_option maxRecDepth 100000 in
theorem s_X6_fondOf_0 {K : SK} {d : Nat} {c : ct} {Q : ct → Int → Prop} (t : Int) (ht : isTab t) (a1 : Int) (h : ((0 ≤ a1 ∧ a1 < 6)) ∧ ((0 ≤ a1 ∧ a1 < 6)) ∧ ((c (t + 6) a1) = 0 → ((c (t + 1) a1) = 5 → (ir (c t 12)) ∧ ((Int.tmod (c t 12) 2) = 0 → WI K (d + 1) mX6_fondOf 32 [(2, t), (0, a1), (0, (c (t + 1) a1)), (9, 0), (9, 0)] [] c Q) ∧ (¬ ((Int.tmod (c t 12) 2) = 0) → ir (Int.tmod (c t 12) 2) ∧ Q c 0)) ∧ (¬ ((c (t + 1) a1) = 5) → ir (c (t + 1) a1) ∧ WI K (d + 1) mX6_fondOf 32 [(2, t), (0, a1), (0, (c (t + 1) a1)), (9, 0), (9, 0)] [] c Q)) ∧ (¬ ((c (t + 6) a1) = 0) → ir (c (t + 6) a1) ∧ Q c 0)) : WI K (d + 1) mX6_fondOf 0 [(2, t), (0, a1), (9, 0), (9, 0), (9, 0)] [] c Q := by
  refine R_aload_n (pc' := 1) dX6_fondOf_0 rfl (tab_s ht).1 rfl ?_
  refine Q_getfr (v := (t + 1)) (J := 0) (pc' := 4) rfl dX6_fondOf_1 l_RX6_9 (tab_s ht) fd6_0.1 fd6_0.2.1 fd6_0.2.2.1 fd6_0.2.2.2 (tab_f0 ht) rfl ?_
  refine R_iload_n (pc' := 5) dX6_fondOf_4 rfl rfl ?_
  have hs1 := h.1
  have h := h.2
  refine Q_iaload (N := 6) (pc' := 6) rfl dX6_fondOf_5 (tab_0 ht) (by decide) hs1 rfl ?_
  refine R_istore_n (L' := [_, _, _, _, _]) (pc' := 7) dX6_fondOf_6 (by decide) rfl rfl rfl ?_
  refine R_aload_n (pc' := 8) dX6_fondOf_7 rfl (tab_s ht).1 rfl ?_
  refine Q_getfr (v := (t + 6)) (J := 5) (pc' := 11) rfl dX6_fondOf_8 l_RX6_28 (tab_s ht) fd6_5.1 fd6_5.2.1 fd6_5.2.2.1 fd6_5.2.2.2 (tab_f5 ht) rfl ?_
  refine R_iload_n (pc' := 12) dX6_fondOf_11 rfl rfl ?_
  have hs2 := h.1
  have h := h.2
  refine Q_zaload (N := 6) (pc' := 13) rfl dX6_fondOf_12 (tab_5 ht) (by decide) hs2 rfl ?_
  by_cases hc3 : (c (t + 6) a1) = 0
  · have h := h.1 hc3
    refine R_neS_if (tgt := 30) (pc' := 16) dX6_fondOf_13 (by decide) hc3 rfl ?_
    refine R_iload_n (pc' := 17) dX6_fondOf_16 rfl rfl ?_
    refine R_iconst (pc' := 18) dX6_fondOf_17 rfl ?_
    by_cases hc4 : (c (t + 1) a1) = 5
    · have h := h.1 hc4
      refine R_neS_ic (tgt := 32) (pc' := 21) dX6_fondOf_18 (by decide) hc4 rfl ?_
      refine R_aload_n (pc' := 22) dX6_fondOf_21 rfl (tab_s ht).1 rfl ?_
      refine Q_getfi (J := 12) (pc' := 25) rfl dX6_fondOf_22 l_RX6_62 (tab_s ht) fd6_12.1 fd6_12.2.1 fd6_12.2.2.1 rfl ?_
      refine R_iconst (pc' := 26) dX6_fondOf_25 rfl ?_
      have hs5 := h.1
      have h := h.2
      refine R_irem (pc' := 27) dX6_fondOf_26 (by decide) hs5 (ir_l (by decide) (by decide)) rfl ?_
      by_cases hc6 : (Int.tmod (c t 12) 2) = 0
      · have h := h.1 hc6
        refine R_eqS_if (tgt := 32) (pc' := 30) dX6_fondOf_27 (by decide) hc6 rfl ?_
        exact WP_wk (wk_e (wk_e (wk_e (wk_u (wk_u wk_n))))) h
      · have h := h.2 hc6
        refine R_eqD_if (tgt := 32) (pc' := 30) dX6_fondOf_27 (by decide) hc6 h.1 rfl ?_
        have h := h.2
        refine R_iconst (pc' := 31) dX6_fondOf_30 rfl ?_
        exact Q_iret dX6_fondOf_31 rfl h
    · have h := h.2 hc4
      refine R_neD_ic (tgt := 32) (pc' := 21) dX6_fondOf_18 (by decide) hc4 ⟨h.1, ir_l (by decide) (by decide)⟩ rfl ?_
      have h := h.2
      exact WP_wk (wk_e (wk_e (wk_e (wk_u (wk_u wk_n))))) h
  · have h := h.2 hc3
    refine R_neD_if (tgt := 30) (pc' := 16) dX6_fondOf_13 (by decide) hc3 h.1 rfl ?_
    have h := h.2
    refine R_iconst (pc' := 31) dX6_fondOf_30 rfl ?_
    exact Q_iret dX6_fondOf_31 rfl h
set_option maxRecDepth 100000 in
theorem s_X6_fondOf_32 {K : SK} {d : Nat} {c : ct} {Q : ct → Int → Prop} (t : Int) (ht : isTab t) (a1 : Int) (a2 : Int) (h : (a2 = 4 → ((0 ≤ a1 ∧ a1 < 6)) ∧ Q c (c (t + 2) a1)) ∧ (¬ (a2 = 4) → ir a2 ∧ ((0 ≤ a1 ∧ a1 < 6)) ∧ ((0 ≤ (c (t + 3) a1) ∧ (c (t + 3) a1) < 6)) ∧ CI K d mX6_warmth [(2, t), (0, a1), (0, (roC K 1 (Int.toNat (c (t + 3) a1))))] c (fun c5 r6 => ((0 ≤ (c (t + 3) a1) ∧ (c (t + 3) a1) < 6)) ∧ CI K d mX6_warmth [(2, t), (0, a1), (0, (roC K 2 (Int.toNat (c (t + 3) a1))))] c5 (fun c8 r9 => ir a2 ∧ (a2 = 1 → (ir (r6 + r9)) ∧ Q c8 (Int.tdiv (r6 + r9) 2)) ∧ (a2 = 2 → ((c (t + 3) a1) = 0 → (isHou (c8 t 13)) ∧ Q c8 ((r6 + r9) + (c8 (c8 t 13) 6))) ∧ (¬ ((c (t + 3) a1) = 0) → ir (c (t + 3) a1) ∧ Q c8 (r6 + r9))) ∧ (a2 = 3 → Q c8 (r6 + r9)) ∧ (a2 = 4 → Q c8 (r6 + r9)) ∧ (a2 = 5 → ((c (t + 3) a1) = 0 → (isHou (c8 t 13)) ∧ Q c8 ((r6 + r9) + (c8 (c8 t 13) 6))) ∧ (¬ ((c (t + 3) a1) = 0) → ir (c (t + 3) a1) ∧ Q c8 (r6 + r9))) ∧ (a2 = 6 → (ir (c (t + 3) a1)) ∧ ((0 ≤ ((a1 * 4) + (Int.tmod (c (t + 3) a1) 4)) ∧ ((a1 * 4) + (Int.tmod (c (t + 3) a1) 4)) < 24)) ∧ Q c8 ((r6 + r9) + (c8 (t + 7) ((a1 * 4) + (Int.tmod (c (t + 3) a1) 4))))) ∧ ((a2 < 1 ∨ 6 < a2) → Q c8 (r6 + r9)))))) : WI K (d + 1) mX6_fondOf 32 [(2, t), (0, a1), (0, a2), (9, 0), (9, 0)] [] c Q := by
  refine R_iload_n (pc' := 33) dX6_fondOf_32 rfl rfl ?_
  refine R_iconst (pc' := 34) dX6_fondOf_33 rfl ?_
  by_cases hc1 : a2 = 4
  · have h := h.1 hc1
    refine R_neS_ic (tgt := 44) (pc' := 37) dX6_fondOf_34 (by decide) hc1 rfl ?_
    refine R_aload_n (pc' := 38) dX6_fondOf_37 rfl (tab_s ht).1 rfl ?_
    refine Q_getfr (v := (t + 2)) (J := 1) (pc' := 41) rfl dX6_fondOf_38 l_RX6_15 (tab_s ht) fd6_1.1 fd6_1.2.1 fd6_1.2.2.1 fd6_1.2.2.2 (tab_f1 ht) rfl ?_
    refine R_iload_n (pc' := 42) dX6_fondOf_41 rfl rfl ?_
    have hs2 := h.1
    have h := h.2
    refine Q_iaload (N := 6) (pc' := 43) rfl dX6_fondOf_42 (tab_1 ht) (by decide) hs2 rfl ?_
    exact Q_iret dX6_fondOf_43 rfl h
  · have h := h.2 hc1
    refine R_neD_ic (tgt := 44) (pc' := 37) dX6_fondOf_34 (by decide) hc1 ⟨h.1, ir_l (by decide) (by decide)⟩ rfl ?_
    have h := h.2
    refine R_aload_n (pc' := 45) dX6_fondOf_44 rfl (tab_s ht).1 rfl ?_
    refine Q_getfr (v := (t + 3)) (J := 2) (pc' := 48) rfl dX6_fondOf_45 l_RX6_18 (tab_s ht) fd6_2.1 fd6_2.2.1 fd6_2.2.2.1 fd6_2.2.2.2 (tab_f2 ht) rfl ?_
    refine R_iload_n (pc' := 49) dX6_fondOf_48 rfl rfl ?_
    have hs3 := h.1
    have h := h.2
    refine Q_iaload (N := 6) (pc' := 50) rfl dX6_fondOf_49 (tab_2 ht) (by decide) hs3 rfl ?_
    refine R_istore_n (L' := [_, _, _, _, _]) (pc' := 51) dX6_fondOf_50 (by decide) rfl rfl rfl ?_
    refine R_aload_n (pc' := 52) dX6_fondOf_51 rfl (tab_s ht).1 rfl ?_
    refine R_iload_n (pc' := 53) dX6_fondOf_52 rfl rfl ?_
    refine R_gets (i := 1) (pc' := 56) dX6_fondOf_53 l_RX6_80 (by decide) (by decide) rfl ?_
    refine R_iload_n (pc' := 57) dX6_fondOf_56 rfl rfl ?_
    have hs4 := h.1
    have h := h.2
    refine Q_roload (i := 1) (N := 6) (pc' := 58) rfl dX6_fondOf_57 (by decide) hs4 rfl ?_
    refine Q_callVI (vs := [(0, a1), (0, (roC K 1 (Int.toNat (c (t + 3) a1))))]) (st := []) (pc' := 61) dX6_fondOf_58 l_RX6_90 (tab_s ht) (by decide) rfl rfl (Nat.le_of_ble_eq_true rfl) rfl (Nat.zero_le _) (Nat.zero_le _) rfl ?_
    refine CI.mono h (fun c5 r6 h => ?_)
    refine R_aload_n (pc' := 62) dX6_fondOf_61 rfl (tab_s ht).1 rfl ?_
    refine R_iload_n (pc' := 63) dX6_fondOf_62 rfl rfl ?_
    refine R_gets (i := 2) (pc' := 66) dX6_fondOf_63 l_RX6_87 (by decide) (by decide) rfl ?_
    refine R_iload_n (pc' := 67) dX6_fondOf_66 rfl rfl ?_
    have hs7 := h.1
    have h := h.2
    refine Q_roload (i := 2) (N := 6) (pc' := 68) rfl dX6_fondOf_67 (by decide) hs7 rfl ?_
    refine Q_callVI (vs := [(0, a1), (0, (roC K 2 (Int.toNat (c (t + 3) a1))))]) (st := [(0, r6)]) (pc' := 71) dX6_fondOf_68 l_RX6_90 (tab_s ht) (by decide) rfl rfl (Nat.le_of_ble_eq_true rfl) rfl (Nat.zero_le _) (Nat.zero_le _) rfl ?_
    refine CI.mono h (fun c8 r9 h => ?_)
    refine R_iadd (pc' := 72) dX6_fondOf_71 rfl ?_
    refine R_istore (L' := [_, _, _, _, _]) (pc' := 74) dX6_fondOf_72 (by decide) rfl rfl rfl ?_
    refine R_iload_n (pc' := 75) dX6_fondOf_74 rfl rfl ?_
    have hs0 := h.1
    have h := h.2
    rcases (show a2 = 1 ∨ a2 = 2 ∨ a2 = 3 ∨ a2 = 4 ∨ a2 = 5 ∨ a2 = 6 ∨ (a2 < 1 ∨ 6 < a2) by omega) with hk | hk | hk | hk | hk | hk | hk
    · have h := h.1 hk
      refine R_tableAt (tgt := 112) 1 hk dX6_fondOf_75 (ir_l (by decide) (by decide)) (by decide) rfl (by decide) ?_
      refine R_iload (pc' := 114) dX6_fondOf_112 rfl rfl ?_
      refine R_iconst (pc' := 115) dX6_fondOf_114 rfl ?_
      have hs11 := h.1
      have h := h.2
      refine R_idiv (pc' := 116) dX6_fondOf_115 (by decide) hs11 (ir_l (by decide) (by decide)) rfl ?_
      exact Q_iret dX6_fondOf_116 rfl h
    · have h := h.2.1 hk
      refine R_tableAt (tgt := 117) 2 hk dX6_fondOf_75 (ir_l (by decide) (by decide)) (by decide) rfl (by decide) ?_
      refine R_iload_n (pc' := 118) dX6_fondOf_117 rfl rfl ?_
      by_cases hc13 : (c (t + 3) a1) = 0
      · have h := h.1 hc13
        refine R_neS_if (tgt := 134) (pc' := 121) dX6_fondOf_118 (by decide) hc13 rfl ?_
        refine R_iload (pc' := 123) dX6_fondOf_121 rfl rfl ?_
        refine R_aload_n (pc' := 124) dX6_fondOf_123 rfl (tab_s ht).1 rfl ?_
        have hs14 := h.1
        have h := h.2
        refine Q_getfq (J := 13) (pc' := 127) rfl dX6_fondOf_124 l_RX6_45 (tab_s ht) fd6_13.1 fd6_13.2.1 fd6_13.2.2.1 fd6_13.2.2.2 rfl ?_
        refine Q_getfNi (J := 6) (pc' := 130) rfl dX6_fondOf_127 l_RX6_94 (hou_s hs14) fd2_6.1 fd2_6.2.1 fd2_6.2.2.1 rfl ?_
        refine R_iadd (pc' := 131) dX6_fondOf_130 rfl ?_
        refine R_goto (tgt := 136) dX6_fondOf_131 (by decide) ?_
        exact Q_iret dX6_fondOf_136 rfl h
      · have h := h.2 hc13
        refine R_neD_if (tgt := 134) (pc' := 121) dX6_fondOf_118 (by decide) hc13 h.1 rfl ?_
        have h := h.2
        refine R_iload (pc' := 136) dX6_fondOf_134 rfl rfl ?_
        exact Q_iret dX6_fondOf_136 rfl h
    · have h := h.2.2.1 hk
      refine R_tableAt (tgt := 153) 3 hk dX6_fondOf_75 (ir_l (by decide) (by decide)) (by decide) rfl (by decide) ?_
      refine R_iload (pc' := 155) dX6_fondOf_153 rfl rfl ?_
      exact Q_iret dX6_fondOf_155 rfl h
    · have h := h.2.2.2.1 hk
      refine R_tableAt (tgt := 153) 4 hk dX6_fondOf_75 (ir_l (by decide) (by decide)) (by decide) rfl (by decide) ?_
      refine R_iload (pc' := 155) dX6_fondOf_153 rfl rfl ?_
      exact Q_iret dX6_fondOf_155 rfl h
    · have h := h.2.2.2.2.1 hk
      refine R_tableAt (tgt := 117) 5 hk dX6_fondOf_75 (ir_l (by decide) (by decide)) (by decide) rfl (by decide) ?_
      refine R_iload_n (pc' := 118) dX6_fondOf_117 rfl rfl ?_
      by_cases hc18 : (c (t + 3) a1) = 0
      · have h := h.1 hc18
        refine R_neS_if (tgt := 134) (pc' := 121) dX6_fondOf_118 (by decide) hc18 rfl ?_
        refine R_iload (pc' := 123) dX6_fondOf_121 rfl rfl ?_
        refine R_aload_n (pc' := 124) dX6_fondOf_123 rfl (tab_s ht).1 rfl ?_
        have hs19 := h.1
        have h := h.2
        refine Q_getfq (J := 13) (pc' := 127) rfl dX6_fondOf_124 l_RX6_45 (tab_s ht) fd6_13.1 fd6_13.2.1 fd6_13.2.2.1 fd6_13.2.2.2 rfl ?_
        refine Q_getfNi (J := 6) (pc' := 130) rfl dX6_fondOf_127 l_RX6_94 (hou_s hs19) fd2_6.1 fd2_6.2.1 fd2_6.2.2.1 rfl ?_
        refine R_iadd (pc' := 131) dX6_fondOf_130 rfl ?_
        refine R_goto (tgt := 136) dX6_fondOf_131 (by decide) ?_
        exact Q_iret dX6_fondOf_136 rfl h
      · have h := h.2 hc18
        refine R_neD_if (tgt := 134) (pc' := 121) dX6_fondOf_118 (by decide) hc18 h.1 rfl ?_
        have h := h.2
        refine R_iload (pc' := 136) dX6_fondOf_134 rfl rfl ?_
        exact Q_iret dX6_fondOf_136 rfl h
    · have h := h.2.2.2.2.2.1 hk
      refine R_tableAt (tgt := 137) 6 hk dX6_fondOf_75 (ir_l (by decide) (by decide)) (by decide) rfl (by decide) ?_
      refine R_iload (pc' := 139) dX6_fondOf_137 rfl rfl ?_
      refine R_aload_n (pc' := 140) dX6_fondOf_139 rfl (tab_s ht).1 rfl ?_
      refine Q_getfr (v := (t + 7)) (J := 6) (pc' := 143) rfl dX6_fondOf_140 l_RX6_31 (tab_s ht) fd6_6.1 fd6_6.2.1 fd6_6.2.2.1 fd6_6.2.2.2 (tab_f6 ht) rfl ?_
      refine R_iload_n (pc' := 144) dX6_fondOf_143 rfl rfl ?_
      refine R_iconst (pc' := 145) dX6_fondOf_144 rfl ?_
      refine R_imul (pc' := 146) dX6_fondOf_145 rfl ?_
      refine R_iload_n (pc' := 147) dX6_fondOf_146 rfl rfl ?_
      refine R_iconst (pc' := 148) dX6_fondOf_147 rfl ?_
      have hs21 := h.1
      have h := h.2
      refine R_irem (pc' := 149) dX6_fondOf_148 (by decide) hs21 (ir_l (by decide) (by decide)) rfl ?_
      refine R_iadd (pc' := 150) dX6_fondOf_149 rfl ?_
      have hs22 := h.1
      have h := h.2
      refine Q_iaload (N := 24) (pc' := 151) rfl dX6_fondOf_150 (tab_6 ht) (by decide) hs22 rfl ?_
      refine R_iadd (pc' := 152) dX6_fondOf_151 rfl ?_
      exact Q_iret dX6_fondOf_152 rfl h
    · have h := h.2.2.2.2.2.2 hk
      refine R_tableOut (tgt := 153) dX6_fondOf_75 hs0 hk (by decide) ?_
      refine R_iload (pc' := 155) dX6_fondOf_153 rfl rfl ?_
      exact Q_iret dX6_fondOf_155 rfl h
theorem e_X6_fondOf {K : SK} {d : Nat} {c : ct} {Q : ct → Int → Prop} (t : Int) (ht : isTab t) (a1 : Int) (h : WI K (d + 1) mX6_fondOf 0 [(2, t), (0, a1), (9, 0), (9, 0), (9, 0)] [] c Q) : CI K (d + 1) mX6_fondOf [(2, t), (0, a1)] c Q := CM_ofS (by decide) (Nat.le_of_ble_eq_true rfl) _ rfl h
set_option maxRecDepth 100000 in
theorem s_X6_warmth_0 {K : SK} {d : Nat} {c : ct} {Q : ct → Int → Prop} (t : Int) (ht : isTab t) (a1 : Int) (a2 : Int) (h : CI K d mX6_neighbourAt [(2, t), (0, a2)] c (fun c1 r2 => (ir r2) ∧ (0 ≤ r2 → ((0 ≤ a1 ∧ a1 < 6)) ∧ ((0 ≤ (c1 (t + 1) a1) ∧ (c1 (t + 1) a1) < 7)) ∧ ((0 ≤ r2 ∧ r2 < 6)) ∧ ((0 ≤ (c1 (t + 1) r2) ∧ (c1 (t + 1) r2) < 7)) ∧ ((0 ≤ a1 ∧ a1 < 6)) ∧ ((0 ≤ ((a1 * 6) + r2) ∧ ((a1 * 6) + r2) < 36)) ∧ Q c1 ((c1 (t + 9) ((a1 * 6) + r2)) - (((roC K 3 (Int.toNat (c1 (t + 1) a1))) * (roC K 3 (Int.toNat (c1 (t + 1) r2)))) * (c1 (t + 2) a1)))) ∧ (¬ (0 ≤ r2) → Q c1 0))) : WI K (d + 1) mX6_warmth 0 [(2, t), (0, a1), (0, a2), (9, 0), (9, 0)] [] c Q := by
  refine R_aload_n (pc' := 1) dX6_warmth_0 rfl (tab_s ht).1 rfl ?_
  refine R_iload_n (pc' := 2) dX6_warmth_1 rfl rfl ?_
  refine Q_callVI (vs := [(0, a2)]) (st := []) (pc' := 5) dX6_warmth_2 l_RX6_83 (tab_s ht) (by decide) rfl rfl (Nat.le_of_ble_eq_true rfl) rfl (Nat.zero_le _) (Nat.zero_le _) rfl ?_
  refine CI.mono h (fun c1 r2 h => ?_)
  refine R_istore_n (L' := [_, _, _, _, _]) (pc' := 6) dX6_warmth_5 (by decide) rfl rfl rfl ?_
  refine R_iload_n (pc' := 7) dX6_warmth_6 rfl rfl ?_
  have hs4 := h.1
  have h := h.2
  refine R_if_ge (tgt := 12) (pc' := 10) dX6_warmth_7 (by decide) hs4  rfl (fun hc3 => ?_) (fun hc3 => ?_)
  · have h := h.1 hc3
    refine R_gets (i := 3) (pc' := 15) dX6_warmth_12 l_RX6_97 (by decide) (by decide) rfl ?_
    refine R_aload_n (pc' := 16) dX6_warmth_15 rfl (tab_s ht).1 rfl ?_
    refine Q_getfr (v := (t + 1)) (J := 0) (pc' := 19) rfl dX6_warmth_16 l_RX6_9 (tab_s ht) fd6_0.1 fd6_0.2.1 fd6_0.2.2.1 fd6_0.2.2.2 (tab_f0 ht) rfl ?_
    refine R_iload_n (pc' := 20) dX6_warmth_19 rfl rfl ?_
    have hs5 := h.1
    have h := h.2
    refine Q_iaload (N := 6) (pc' := 21) rfl dX6_warmth_20 (tab_0 ht) (by decide) hs5 rfl ?_
    have hs6 := h.1
    have h := h.2
    refine Q_roload (i := 3) (N := 7) (pc' := 22) rfl dX6_warmth_21 (by decide) hs6 rfl ?_
    refine R_gets (i := 3) (pc' := 25) dX6_warmth_22 l_RX6_97 (by decide) (by decide) rfl ?_
    refine R_aload_n (pc' := 26) dX6_warmth_25 rfl (tab_s ht).1 rfl ?_
    refine Q_getfr (v := (t + 1)) (J := 0) (pc' := 29) rfl dX6_warmth_26 l_RX6_9 (tab_s ht) fd6_0.1 fd6_0.2.1 fd6_0.2.2.1 fd6_0.2.2.2 (tab_f0 ht) rfl ?_
    refine R_iload_n (pc' := 30) dX6_warmth_29 rfl rfl ?_
    have hs7 := h.1
    have h := h.2
    refine Q_iaload (N := 6) (pc' := 31) rfl dX6_warmth_30 (tab_0 ht) (by decide) hs7 rfl ?_
    have hs8 := h.1
    have h := h.2
    refine Q_roload (i := 3) (N := 7) (pc' := 32) rfl dX6_warmth_31 (by decide) hs8 rfl ?_
    refine R_imul (pc' := 33) dX6_warmth_32 rfl ?_
    refine R_aload_n (pc' := 34) dX6_warmth_33 rfl (tab_s ht).1 rfl ?_
    refine Q_getfr (v := (t + 2)) (J := 1) (pc' := 37) rfl dX6_warmth_34 l_RX6_15 (tab_s ht) fd6_1.1 fd6_1.2.1 fd6_1.2.2.1 fd6_1.2.2.2 (tab_f1 ht) rfl ?_
    refine R_iload_n (pc' := 38) dX6_warmth_37 rfl rfl ?_
    have hs9 := h.1
    have h := h.2
    refine Q_iaload (N := 6) (pc' := 39) rfl dX6_warmth_38 (tab_1 ht) (by decide) hs9 rfl ?_
    refine R_imul (pc' := 40) dX6_warmth_39 rfl ?_
    refine R_istore (L' := [_, _, _, _, _]) (pc' := 42) dX6_warmth_40 (by decide) rfl rfl rfl ?_
    refine R_aload_n (pc' := 43) dX6_warmth_42 rfl (tab_s ht).1 rfl ?_
    refine Q_getfr (v := (t + 9)) (J := 8) (pc' := 46) rfl dX6_warmth_43 l_RX6_37 (tab_s ht) fd6_8.1 fd6_8.2.1 fd6_8.2.2.1 fd6_8.2.2.2 (tab_f8 ht) rfl ?_
    refine R_iload_n (pc' := 47) dX6_warmth_46 rfl rfl ?_
    refine R_bipush (pc' := 49) dX6_warmth_47 (by decide) rfl ?_
    refine R_imul (pc' := 50) dX6_warmth_49 rfl ?_
    refine R_iload_n (pc' := 51) dX6_warmth_50 rfl rfl ?_
    refine R_iadd (pc' := 52) dX6_warmth_51 rfl ?_
    have hs10 := h.1
    have h := h.2
    refine Q_iaload (N := 36) (pc' := 53) rfl dX6_warmth_52 (tab_8 ht) (by decide) hs10 rfl ?_
    refine R_iload (pc' := 55) dX6_warmth_53 rfl rfl ?_
    refine R_isub (pc' := 56) dX6_warmth_55 rfl ?_
    exact Q_iret dX6_warmth_56 rfl h
  · have h := h.2 hc3
    refine R_iconst (pc' := 11) dX6_warmth_10 rfl ?_
    exact Q_iret dX6_warmth_11 rfl h
theorem e_X6_warmth {K : SK} {d : Nat} {c : ct} {Q : ct → Int → Prop} (t : Int) (ht : isTab t) (a1 : Int) (a2 : Int) (h : WI K (d + 1) mX6_warmth 0 [(2, t), (0, a1), (0, a2), (9, 0), (9, 0)] [] c Q) : CI K (d + 1) mX6_warmth [(2, t), (0, a1), (0, a2)] c Q := CM_ofS (by decide) (Nat.le_of_ble_eq_true rfl) _ rfl h
set_option maxRecDepth 100000 in
theorem s_X6_fondOfAll_0 {K : SK} {d : Nat} {c : ct} {Q : ct → Int → Prop} (t : Int) (ht : isTab t) (h : WI K (d + 1) mX6_fondOfAll 4 [(2, t), (0, 0), (0, 0)] [] c Q) : WI K (d + 1) mX6_fondOfAll 0 [(2, t), (9, 0), (9, 0)] [] c Q := by
  refine R_iconst (pc' := 1) dX6_fondOfAll_0 rfl ?_
  refine R_istore_n (L' := [_, _, _]) (pc' := 2) dX6_fondOfAll_1 (by decide) rfl rfl rfl ?_
  refine R_iconst (pc' := 3) dX6_fondOfAll_2 rfl ?_
  refine R_istore_n (L' := [_, _, _]) (pc' := 4) dX6_fondOfAll_3 (by decide) rfl rfl rfl ?_
  exact WP_wk (wk_e (wk_e (wk_e wk_n))) h
set_option maxRecDepth 100000 in
theorem s_X6_fondOfAll_4 {K : SK} {d : Nat} {c : ct} {Q : ct → Int → Prop} (t : Int) (ht : isTab t) (a1 : Int) (a2 : Int) (h : (ir a2 ∧ ir (c t 10)) ∧ ((c t 10) ≤ a2 → Q c a1) ∧ (¬ ((c t 10) ≤ a2) → CI K d mX6_fondOf [(2, t), (0, a2)] c (fun c3 r4 => WI K (d + 1) mX6_fondOfAll 4 [(2, t), (0, (a1 + r4)), (0, (a2 + 1))] [] c3 Q))) : WI K (d + 1) mX6_fondOfAll 4 [(2, t), (0, a1), (0, a2)] [] c Q := by
  refine R_iload_n (pc' := 5) dX6_fondOfAll_4 rfl rfl ?_
  refine R_aload_n (pc' := 6) dX6_fondOfAll_5 rfl (tab_s ht).1 rfl ?_
  refine Q_getfi (J := 10) (pc' := 9) rfl dX6_fondOfAll_6 l_RX6_55 (tab_s ht) fd6_10.1 fd6_10.2.1 fd6_10.2.2.1 rfl ?_
  have hs2 := h.1
  have h := h.2
  refine R_icmp_ge (tgt := 26) (pc' := 12) dX6_fondOfAll_9 (by decide) hs2.1 hs2.2 rfl (fun hc1 => ?_) (fun hc1 => ?_)
  · have h := h.1 hc1
    refine R_iload_n (pc' := 27) dX6_fondOfAll_26 rfl rfl ?_
    exact Q_iret dX6_fondOfAll_27 rfl h
  · have h := h.2 hc1
    refine R_iload_n (pc' := 13) dX6_fondOfAll_12 rfl rfl ?_
    refine R_aload_n (pc' := 14) dX6_fondOfAll_13 rfl (tab_s ht).1 rfl ?_
    refine R_iload_n (pc' := 15) dX6_fondOfAll_14 rfl rfl ?_
    refine Q_callVI (vs := [(0, a2)]) (st := [(0, a1)]) (pc' := 18) dX6_fondOfAll_15 l_RX6_100 (tab_s ht) (by decide) rfl rfl (Nat.le_of_ble_eq_true rfl) rfl (Nat.zero_le _) (Nat.zero_le _) rfl ?_
    refine CI.mono h (fun c3 r4 h => ?_)
    refine R_iadd (pc' := 19) dX6_fondOfAll_18 rfl ?_
    refine R_istore_n (L' := [_, _, _]) (pc' := 20) dX6_fondOfAll_19 (by decide) rfl rfl rfl ?_
    refine R_iinc (L' := [_, _, _]) (pc' := 23) dX6_fondOfAll_20 rfl (by decide) rfl rfl rfl ?_
    refine R_goto (tgt := 4) dX6_fondOfAll_23 (by decide) ?_
    exact WP_wk (wk_e (wk_e (wk_e wk_n))) h
theorem e_X6_fondOfAll {K : SK} {d : Nat} {c : ct} {Q : ct → Int → Prop} (t : Int) (ht : isTab t) (h : WI K (d + 1) mX6_fondOfAll 0 [(2, t), (9, 0), (9, 0)] [] c Q) : CI K (d + 1) mX6_fondOfAll [(2, t)] c Q := CM_ofS (by decide) (Nat.le_of_ble_eq_true rfl) _ rfl h
set_option maxRecDepth 100000 in
theorem s_X6_clashes_0 {K : SK} {d : Nat} {c : ct} {Q : ct → Int → Prop} (t : Int) (ht : isTab t) (h : WI K (d + 1) mX6_clashes 4 [(2, t), (0, 0), (0, 0), (9, 0), (9, 0)] [] c Q) : WI K (d + 1) mX6_clashes 0 [(2, t), (9, 0), (9, 0), (9, 0), (9, 0)] [] c Q := by
  refine R_iconst (pc' := 1) dX6_clashes_0 rfl ?_
  refine R_istore_n (L' := [_, _, _, _, _]) (pc' := 2) dX6_clashes_1 (by decide) rfl rfl rfl ?_
  refine R_iconst (pc' := 3) dX6_clashes_2 rfl ?_
  refine R_istore_n (L' := [_, _, _, _, _]) (pc' := 4) dX6_clashes_3 (by decide) rfl rfl rfl ?_
  exact WP_wk (wk_e (wk_e (wk_e (wk_u (wk_u wk_n))))) h
set_option maxRecDepth 100000 in
theorem s_X6_clashes_4 {K : SK} {d : Nat} {c : ct} {Q : ct → Int → Prop} (t : Int) (ht : isTab t) (a1 : Int) (a2 : Int) (h : (ir a2) ∧ (6 ≤ a2 → Q c a1) ∧ (¬ (6 ≤ a2) → CI K d mX6_neighbourAt [(2, t), (0, a2)] c (fun c3 r4 => ((0 ≤ a2 ∧ a2 < 6)) ∧ CI K d mX6_neighbourAt [(2, t), (0, (roC K 1 (Int.toNat a2)))] c3 (fun c6 r7 => (ir r4) ∧ (r4 < 0 → WI K (d + 1) mX6_clashes 4 [(2, t), (0, a1), (0, (a2 + 1)), (9, 0), (9, 0)] [] c6 Q) ∧ (¬ (r4 < 0) → (ir r7) ∧ (r7 < 0 → WI K (d + 1) mX6_clashes 4 [(2, t), (0, a1), (0, (a2 + 1)), (9, 0), (9, 0)] [] c6 Q) ∧ (¬ (r7 < 0) → CI K d mX6_liking [(2, t), (0, r4), (0, r7)] c6 (fun c12 r13 => (ir r13) ∧ (r13 < 0 → WI K (d + 1) mX6_clashes 4 [(2, t), (0, (a1 + 1)), (0, (a2 + 1)), (9, 0), (9, 0)] [] c12 Q) ∧ (¬ (r13 < 0) → CI K d mX6_liking [(2, t), (0, r7), (0, r4)] c12 (fun c16 r17 => (ir r17) ∧ (0 ≤ r17 → WI K (d + 1) mX6_clashes 4 [(2, t), (0, a1), (0, (a2 + 1)), (9, 0), (9, 0)] [] c16 Q) ∧ (¬ (0 ≤ r17) → WI K (d + 1) mX6_clashes 4 [(2, t), (0, (a1 + 1)), (0, (a2 + 1)), (9, 0), (9, 0)] [] c16 Q)))))))))) : WI K (d + 1) mX6_clashes 4 [(2, t), (0, a1), (0, a2), (9, 0), (9, 0)] [] c Q := by
  refine R_iload_n (pc' := 5) dX6_clashes_4 rfl rfl ?_
  refine R_bipush (pc' := 7) dX6_clashes_5 (by decide) rfl ?_
  have hs2 := h.1
  have h := h.2
  refine R_icmp_ge (tgt := 65) (pc' := 10) dX6_clashes_7 (by decide) hs2 (ir_l (by decide) (by decide)) rfl (fun hc1 => ?_) (fun hc1 => ?_)
  · have h := h.1 hc1
    refine R_iload_n (pc' := 66) dX6_clashes_65 rfl rfl ?_
    exact Q_iret dX6_clashes_66 rfl h
  · have h := h.2 hc1
    refine R_aload_n (pc' := 11) dX6_clashes_10 rfl (tab_s ht).1 rfl ?_
    refine R_iload_n (pc' := 12) dX6_clashes_11 rfl rfl ?_
    refine Q_callVI (vs := [(0, a2)]) (st := []) (pc' := 15) dX6_clashes_12 l_RX6_83 (tab_s ht) (by decide) rfl rfl (Nat.le_of_ble_eq_true rfl) rfl (Nat.zero_le _) (Nat.zero_le _) rfl ?_
    refine CI.mono h (fun c3 r4 h => ?_)
    refine R_istore_n (L' := [_, _, _, _, _]) (pc' := 16) dX6_clashes_15 (by decide) rfl rfl rfl ?_
    refine R_aload_n (pc' := 17) dX6_clashes_16 rfl (tab_s ht).1 rfl ?_
    refine R_gets (i := 1) (pc' := 20) dX6_clashes_17 l_RX6_80 (by decide) (by decide) rfl ?_
    refine R_iload_n (pc' := 21) dX6_clashes_20 rfl rfl ?_
    have hs5 := h.1
    have h := h.2
    refine Q_roload (i := 1) (N := 6) (pc' := 22) rfl dX6_clashes_21 (by decide) hs5 rfl ?_
    refine Q_callVI (vs := [(0, (roC K 1 (Int.toNat a2)))]) (st := []) (pc' := 25) dX6_clashes_22 l_RX6_83 (tab_s ht) (by decide) rfl rfl (Nat.le_of_ble_eq_true rfl) rfl (Nat.zero_le _) (Nat.zero_le _) rfl ?_
    refine CI.mono h (fun c6 r7 h => ?_)
    refine R_istore (L' := [_, _, _, _, _]) (pc' := 27) dX6_clashes_25 (by decide) rfl rfl rfl ?_
    refine R_iload_n (pc' := 28) dX6_clashes_27 rfl rfl ?_
    have hs9 := h.1
    have h := h.2
    refine R_if_lt (tgt := 59) (pc' := 31) dX6_clashes_28 (by decide) hs9  rfl (fun hc8 => ?_) (fun hc8 => ?_)
    · have h := h.1 hc8
      refine R_iinc (L' := [_, _, _, _, _]) (pc' := 62) dX6_clashes_59 rfl (by decide) rfl rfl rfl ?_
      refine R_goto (tgt := 4) dX6_clashes_62 (by decide) ?_
      exact WP_wk (wk_e (wk_e (wk_e (wk_u (wk_u wk_n))))) h
    · have h := h.2 hc8
      refine R_iload (pc' := 33) dX6_clashes_31 rfl rfl ?_
      have hs11 := h.1
      have h := h.2
      refine R_if_lt (tgt := 59) (pc' := 36) dX6_clashes_33 (by decide) hs11  rfl (fun hc10 => ?_) (fun hc10 => ?_)
      · have h := h.1 hc10
        refine R_iinc (L' := [_, _, _, _, _]) (pc' := 62) dX6_clashes_59 rfl (by decide) rfl rfl rfl ?_
        refine R_goto (tgt := 4) dX6_clashes_62 (by decide) ?_
        exact WP_wk (wk_e (wk_e (wk_e (wk_u (wk_u wk_n))))) h
      · have h := h.2 hc10
        refine R_aload_n (pc' := 37) dX6_clashes_36 rfl (tab_s ht).1 rfl ?_
        refine R_iload_n (pc' := 38) dX6_clashes_37 rfl rfl ?_
        refine R_iload (pc' := 40) dX6_clashes_38 rfl rfl ?_
        refine Q_callVI (vs := [(0, r4), (0, r7)]) (st := []) (pc' := 43) dX6_clashes_40 l_RX6_103 (tab_s ht) (by decide) rfl rfl (Nat.le_of_ble_eq_true rfl) rfl (Nat.zero_le _) (Nat.zero_le _) rfl ?_
        refine CI.mono h (fun c12 r13 h => ?_)
        have hs15 := h.1
        have h := h.2
        refine R_if_lt (tgt := 56) (pc' := 46) dX6_clashes_43 (by decide) hs15  rfl (fun hc14 => ?_) (fun hc14 => ?_)
        · have h := h.1 hc14
          refine R_iinc (L' := [_, _, _, _, _]) (pc' := 59) dX6_clashes_56 rfl (by decide) rfl rfl rfl ?_
          refine R_iinc (L' := [_, _, _, _, _]) (pc' := 62) dX6_clashes_59 rfl (by decide) rfl rfl rfl ?_
          refine R_goto (tgt := 4) dX6_clashes_62 (by decide) ?_
          exact WP_wk (wk_e (wk_e (wk_e (wk_u (wk_u wk_n))))) h
        · have h := h.2 hc14
          refine R_aload_n (pc' := 47) dX6_clashes_46 rfl (tab_s ht).1 rfl ?_
          refine R_iload (pc' := 49) dX6_clashes_47 rfl rfl ?_
          refine R_iload_n (pc' := 50) dX6_clashes_49 rfl rfl ?_
          refine Q_callVI (vs := [(0, r7), (0, r4)]) (st := []) (pc' := 53) dX6_clashes_50 l_RX6_103 (tab_s ht) (by decide) rfl rfl (Nat.le_of_ble_eq_true rfl) rfl (Nat.zero_le _) (Nat.zero_le _) rfl ?_
          refine CI.mono h (fun c16 r17 h => ?_)
          have hs19 := h.1
          have h := h.2
          refine R_if_ge (tgt := 59) (pc' := 56) dX6_clashes_53 (by decide) hs19  rfl (fun hc18 => ?_) (fun hc18 => ?_)
          · have h := h.1 hc18
            refine R_iinc (L' := [_, _, _, _, _]) (pc' := 62) dX6_clashes_59 rfl (by decide) rfl rfl rfl ?_
            refine R_goto (tgt := 4) dX6_clashes_62 (by decide) ?_
            exact WP_wk (wk_e (wk_e (wk_e (wk_u (wk_u wk_n))))) h
          · have h := h.2 hc18
            refine R_iinc (L' := [_, _, _, _, _]) (pc' := 59) dX6_clashes_56 rfl (by decide) rfl rfl rfl ?_
            refine R_iinc (L' := [_, _, _, _, _]) (pc' := 62) dX6_clashes_59 rfl (by decide) rfl rfl rfl ?_
            refine R_goto (tgt := 4) dX6_clashes_62 (by decide) ?_
            exact WP_wk (wk_e (wk_e (wk_e (wk_u (wk_u wk_n))))) h
theorem e_X6_clashes {K : SK} {d : Nat} {c : ct} {Q : ct → Int → Prop} (t : Int) (ht : isTab t) (h : WI K (d + 1) mX6_clashes 0 [(2, t), (9, 0), (9, 0), (9, 0), (9, 0)] [] c Q) : CI K (d + 1) mX6_clashes [(2, t)] c Q := CM_ofS (by decide) (Nat.le_of_ble_eq_true rfl) _ rfl h
set_option maxRecDepth 100000 in
theorem s_X6_yearsGo_0 {K : SK} {d : Nat} {c : ct} {Q : ct → Prop} (t : Int) (ht : isTab t) (a1 : Int) (h : WV K (d + 1) mX6_yearsGo 2 [(2, t), (0, a1), (0, 0), (9, 0)] [] c Q) : WV K (d + 1) mX6_yearsGo 0 [(2, t), (0, a1), (9, 0), (9, 0)] [] c Q := by
  refine R_iconst (pc' := 1) dX6_yearsGo_0 rfl ?_
  refine R_istore_n (L' := [_, _, _, _]) (pc' := 2) dX6_yearsGo_1 (by decide) rfl rfl rfl ?_
  exact WP_wk (wk_e (wk_e (wk_e (wk_u wk_n)))) h
set_option maxRecDepth 100000 in
theorem s_X6_yearsGo_2 {K : SK} {d : Nat} {c : ct} {Q : ct → Prop} (t : Int) (ht : isTab t) (a1 : Int) (a2 : Int) (h : (ir a2 ∧ ir a1) ∧ (a1 ≤ a2 → Q c) ∧ (¬ (a1 ≤ a2) → WV K (d + 1) mX6_yearsGo 9 [(2, t), (0, a1), (0, a2), (0, 0)] [] c Q)) : WV K (d + 1) mX6_yearsGo 2 [(2, t), (0, a1), (0, a2), (9, 0)] [] c Q := by
  refine R_iload_n (pc' := 3) dX6_yearsGo_2 rfl rfl ?_
  refine R_iload_n (pc' := 4) dX6_yearsGo_3 rfl rfl ?_
  have hs2 := h.1
  have h := h.2
  refine R_icmp_ge (tgt := 103) (pc' := 7) dX6_yearsGo_4 (by decide) hs2.1 hs2.2 rfl (fun hc1 => ?_) (fun hc1 => ?_)
  · have h := h.1 hc1
    exact Q_ret dX6_yearsGo_103 rfl h
  · have h := h.2 hc1
    refine R_iconst (pc' := 8) dX6_yearsGo_7 rfl ?_
    refine R_istore_n (L' := [_, _, _, _]) (pc' := 9) dX6_yearsGo_8 (by decide) rfl rfl rfl ?_
    exact WP_wk (wk_e (wk_e (wk_e (wk_e wk_n)))) h
set_option maxRecDepth 100000 in
theorem s_X6_yearsGo_9 {K : SK} {d : Nat} {c : ct} {Q : ct → Prop} (t : Int) (ht : isTab t) (a1 : Int) (a2 : Int) (a3 : Int) (h : (ir a3 ∧ ir (c t 10)) ∧ ((c t 10) ≤ a3 → ∀ c3 : ct, c3 = up2 c t 12 ((c t 12) + 1) → (isHou (c3 t 13)) ∧ ((c3 (c3 t 13) 7) = 0 → WV K (d + 1) mX6_yearsGo 2 [(2, t), (0, a1), (0, (a2 + 1)), (9, 0)] [] c3 Q) ∧ (¬ ((c3 (c3 t 13) 7) = 0) → ir (c3 (c3 t 13) 7) ∧ CV K d mX6_reckon [(2, t)] c3 (fun c6 => WV K (d + 1) mX6_yearsGo 2 [(2, t), (0, a1), (0, (a2 + 1)), (9, 0)] [] c6 Q))) ∧ (¬ ((c t 10) ≤ a3) → ((0 ≤ a3 ∧ a3 < 6)) ∧ ((c (t + 6) a3) = 0 → ((0 ≤ a3 ∧ a3 < 6)) ∧ ((c (t + 5) a3) = 0 → CI K d mX6_fondOf [(2, t), (0, a3)] c (fun c12 r13 => (isHou (c12 t 13)) ∧ (ir r13 ∧ ir (c12 (c12 t 13) 5)) ∧ (r13 < (c12 (c12 t 13) 5) → WV K (d + 1) mX6_yearsGo 9 [(2, t), (0, a1), (0, a2), (0, (a3 + 1))] [] c12 Q) ∧ (¬ (r13 < (c12 (c12 t 13) 5)) → ((0 ≤ a3 ∧ a3 < 6)) ∧ ∀ c17 : ct, c17 = up2 c12 (t + 5) a3 1 → ((0 ≤ a3 ∧ a3 < 6)) ∧ ((0 ≤ a3 ∧ a3 < 6)) ∧ ∀ c20 : ct, c20 = up2 c17 (t + 4) a3 ((c17 (t + 4) a3) + 1) → WV K (d + 1) mX6_yearsGo 9 [(2, t), (0, a1), (0, a2), (0, (a3 + 1))] [] c20 Q))) ∧ (¬ ((c (t + 5) a3) = 0) → ir (c (t + 5) a3) ∧ WV K (d + 1) mX6_yearsGo 9 [(2, t), (0, a1), (0, a2), (0, (a3 + 1))] [] c Q)) ∧ (¬ ((c (t + 6) a3) = 0) → ir (c (t + 6) a3) ∧ WV K (d + 1) mX6_yearsGo 9 [(2, t), (0, a1), (0, a2), (0, (a3 + 1))] [] c Q))) : WV K (d + 1) mX6_yearsGo 9 [(2, t), (0, a1), (0, a2), (0, a3)] [] c Q := by
  refine R_iload_n (pc' := 10) dX6_yearsGo_9 rfl rfl ?_
  refine R_aload_n (pc' := 11) dX6_yearsGo_10 rfl (tab_s ht).1 rfl ?_
  refine Q_getfi (J := 10) (pc' := 14) rfl dX6_yearsGo_11 l_RX6_55 (tab_s ht) fd6_10.1 fd6_10.2.1 fd6_10.2.2.1 rfl ?_
  have hs2 := h.1
  have h := h.2
  refine R_icmp_ge (tgt := 73) (pc' := 17) dX6_yearsGo_14 (by decide) hs2.1 hs2.2 rfl (fun hc1 => ?_) (fun hc1 => ?_)
  · have h := h.1 hc1
    refine R_aload_n (pc' := 74) dX6_yearsGo_73 rfl (tab_s ht).1 rfl ?_
    refine R_dup (pc' := 75) dX6_yearsGo_74 (by simp) rfl ?_
    refine Q_getfi (J := 12) (pc' := 78) rfl dX6_yearsGo_75 l_RX6_62 (tab_s ht) fd6_12.1 fd6_12.2.1 fd6_12.2.2.1 rfl ?_
    refine R_iconst (pc' := 79) dX6_yearsGo_78 rfl ?_
    refine R_iadd (pc' := 80) dX6_yearsGo_79 rfl ?_
    refine Q_putfi (J := 12) (pc' := 83) rfl dX6_yearsGo_80 l_RX6_62 (tab_s ht) fd6_12.1 fd6_12.2.1 fd6_12.2.2.2.1 fd6_12.2.2.2.2 rfl (fun c3 hc3 => ?_)
    have h := h c3 hc3
    refine R_aload_n (pc' := 84) dX6_yearsGo_83 rfl (tab_s ht).1 rfl ?_
    have hs4 := h.1
    have h := h.2
    refine Q_getfq (J := 13) (pc' := 87) rfl dX6_yearsGo_84 l_RX6_45 (tab_s ht) fd6_13.1 fd6_13.2.1 fd6_13.2.2.1 fd6_13.2.2.2 rfl ?_
    refine Q_getfNi (J := 7) (pc' := 90) rfl dX6_yearsGo_87 l_RX6_108 (hou_s hs4) fd2_7.1 fd2_7.2.1 fd2_7.2.2.1 rfl ?_
    by_cases hc5 : (c3 (c3 t 13) 7) = 0
    · have h := h.1 hc5
      refine R_eqS_if (tgt := 97) (pc' := 93) dX6_yearsGo_90 (by decide) hc5 rfl ?_
      refine R_iinc (L' := [_, _, _, _]) (pc' := 100) dX6_yearsGo_97 rfl (by decide) rfl rfl rfl ?_
      refine R_goto (tgt := 2) dX6_yearsGo_100 (by decide) ?_
      exact WP_wk (wk_e (wk_e (wk_e (wk_u wk_n)))) h
    · have h := h.2 hc5
      refine R_eqD_if (tgt := 97) (pc' := 93) dX6_yearsGo_90 (by decide) hc5 h.1 rfl ?_
      have h := h.2
      refine R_aload_n (pc' := 94) dX6_yearsGo_93 rfl (tab_s ht).1 rfl ?_
      refine Q_callVV (vs := []) (st := []) (pc' := 97) dX6_yearsGo_94 l_RX6_73 (tab_s ht) (by decide) rfl rfl (Nat.le_of_ble_eq_true rfl) rfl (Nat.zero_le _) (Nat.zero_le _) rfl ?_
      refine CV.mono h (fun c6 h => ?_)
      refine R_iinc (L' := [_, _, _, _]) (pc' := 100) dX6_yearsGo_97 rfl (by decide) rfl rfl rfl ?_
      refine R_goto (tgt := 2) dX6_yearsGo_100 (by decide) ?_
      exact WP_wk (wk_e (wk_e (wk_e (wk_u wk_n)))) h
  · have h := h.2 hc1
    refine R_aload_n (pc' := 18) dX6_yearsGo_17 rfl (tab_s ht).1 rfl ?_
    refine Q_getfr (v := (t + 6)) (J := 5) (pc' := 21) rfl dX6_yearsGo_18 l_RX6_28 (tab_s ht) fd6_5.1 fd6_5.2.1 fd6_5.2.2.1 fd6_5.2.2.2 (tab_f5 ht) rfl ?_
    refine R_iload_n (pc' := 22) dX6_yearsGo_21 rfl rfl ?_
    have hs8 := h.1
    have h := h.2
    refine Q_zaload (N := 6) (pc' := 23) rfl dX6_yearsGo_22 (tab_5 ht) (by decide) hs8 rfl ?_
    by_cases hc9 : (c (t + 6) a3) = 0
    · have h := h.1 hc9
      refine R_neS_if (tgt := 67) (pc' := 26) dX6_yearsGo_23 (by decide) hc9 rfl ?_
      refine R_aload_n (pc' := 27) dX6_yearsGo_26 rfl (tab_s ht).1 rfl ?_
      refine Q_getfr (v := (t + 5)) (J := 4) (pc' := 30) rfl dX6_yearsGo_27 l_RX6_24 (tab_s ht) fd6_4.1 fd6_4.2.1 fd6_4.2.2.1 fd6_4.2.2.2 (tab_f4 ht) rfl ?_
      refine R_iload_n (pc' := 31) dX6_yearsGo_30 rfl rfl ?_
      have hs10 := h.1
      have h := h.2
      refine Q_zaload (N := 6) (pc' := 32) rfl dX6_yearsGo_31 (tab_4 ht) (by decide) hs10 rfl ?_
      by_cases hc11 : (c (t + 5) a3) = 0
      · have h := h.1 hc11
        refine R_neS_if (tgt := 67) (pc' := 35) dX6_yearsGo_32 (by decide) hc11 rfl ?_
        refine R_aload_n (pc' := 36) dX6_yearsGo_35 rfl (tab_s ht).1 rfl ?_
        refine R_iload_n (pc' := 37) dX6_yearsGo_36 rfl rfl ?_
        refine Q_callVI (vs := [(0, a3)]) (st := []) (pc' := 40) dX6_yearsGo_37 l_RX6_100 (tab_s ht) (by decide) rfl rfl (Nat.le_of_ble_eq_true rfl) rfl (Nat.zero_le _) (Nat.zero_le _) rfl ?_
        refine CI.mono h (fun c12 r13 h => ?_)
        refine R_aload_n (pc' := 41) dX6_yearsGo_40 rfl (tab_s ht).1 rfl ?_
        have hs14 := h.1
        have h := h.2
        refine Q_getfq (J := 13) (pc' := 44) rfl dX6_yearsGo_41 l_RX6_45 (tab_s ht) fd6_13.1 fd6_13.2.1 fd6_13.2.2.1 fd6_13.2.2.2 rfl ?_
        refine Q_getfNi (J := 5) (pc' := 47) rfl dX6_yearsGo_44 l_RX6_105 (hou_s hs14) fd2_5.1 fd2_5.2.1 fd2_5.2.2.1 rfl ?_
        have hs16 := h.1
        have h := h.2
        refine R_icmp_lt (tgt := 67) (pc' := 50) dX6_yearsGo_47 (by decide) hs16.1 hs16.2 rfl (fun hc15 => ?_) (fun hc15 => ?_)
        · have h := h.1 hc15
          refine R_iinc (L' := [_, _, _, _]) (pc' := 70) dX6_yearsGo_67 rfl (by decide) rfl rfl rfl ?_
          refine R_goto (tgt := 9) dX6_yearsGo_70 (by decide) ?_
          exact WP_wk (wk_e (wk_e (wk_e (wk_e wk_n)))) h
        · have h := h.2 hc15
          refine R_aload_n (pc' := 51) dX6_yearsGo_50 rfl (tab_s ht).1 rfl ?_
          refine Q_getfr (v := (t + 5)) (J := 4) (pc' := 54) rfl dX6_yearsGo_51 l_RX6_24 (tab_s ht) fd6_4.1 fd6_4.2.1 fd6_4.2.2.1 fd6_4.2.2.2 (tab_f4 ht) rfl ?_
          refine R_iload_n (pc' := 55) dX6_yearsGo_54 rfl rfl ?_
          refine R_iconst (pc' := 56) dX6_yearsGo_55 rfl ?_
          have hs18 := h.1
          have h := h.2
          refine Q_zastore (N := 6) (pc' := 57) rfl dX6_yearsGo_56 (tab_4 ht) (by decide) hs18 (Or.inr rfl) rfl (fun c17 hc17 => ?_)
          have h := h c17 hc17
          refine R_aload_n (pc' := 58) dX6_yearsGo_57 rfl (tab_s ht).1 rfl ?_
          refine Q_getfr (v := (t + 4)) (J := 3) (pc' := 61) rfl dX6_yearsGo_58 l_RX6_21 (tab_s ht) fd6_3.1 fd6_3.2.1 fd6_3.2.2.1 fd6_3.2.2.2 (tab_f3 ht) rfl ?_
          refine R_iload_n (pc' := 62) dX6_yearsGo_61 rfl rfl ?_
          refine R_dup2 (pc' := 63) dX6_yearsGo_62 (by simp) (by simp) rfl ?_
          have hs19 := h.1
          have h := h.2
          refine Q_iaload (N := 6) (pc' := 64) rfl dX6_yearsGo_63 (tab_3 ht) (by decide) hs19 rfl ?_
          refine R_iconst (pc' := 65) dX6_yearsGo_64 rfl ?_
          refine R_iadd (pc' := 66) dX6_yearsGo_65 rfl ?_
          have hs21 := h.1
          have h := h.2
          refine Q_iastore (N := 6) (pc' := 67) rfl dX6_yearsGo_66 (tab_3 ht) (by decide) hs21  rfl (fun c20 hc20 => ?_)
          have h := h c20 hc20
          refine R_iinc (L' := [_, _, _, _]) (pc' := 70) dX6_yearsGo_67 rfl (by decide) rfl rfl rfl ?_
          refine R_goto (tgt := 9) dX6_yearsGo_70 (by decide) ?_
          exact WP_wk (wk_e (wk_e (wk_e (wk_e wk_n)))) h
      · have h := h.2 hc11
        refine R_neD_if (tgt := 67) (pc' := 35) dX6_yearsGo_32 (by decide) hc11 h.1 rfl ?_
        have h := h.2
        refine R_iinc (L' := [_, _, _, _]) (pc' := 70) dX6_yearsGo_67 rfl (by decide) rfl rfl rfl ?_
        refine R_goto (tgt := 9) dX6_yearsGo_70 (by decide) ?_
        exact WP_wk (wk_e (wk_e (wk_e (wk_e wk_n)))) h
    · have h := h.2 hc9
      refine R_neD_if (tgt := 67) (pc' := 26) dX6_yearsGo_23 (by decide) hc9 h.1 rfl ?_
      have h := h.2
      refine R_iinc (L' := [_, _, _, _]) (pc' := 70) dX6_yearsGo_67 rfl (by decide) rfl rfl rfl ?_
      refine R_goto (tgt := 9) dX6_yearsGo_70 (by decide) ?_
      exact WP_wk (wk_e (wk_e (wk_e (wk_e wk_n)))) h
theorem e_X6_yearsGo {K : SK} {d : Nat} {c : ct} {Q : ct → Prop} (t : Int) (ht : isTab t) (a1 : Int) (h : WV K (d + 1) mX6_yearsGo 0 [(2, t), (0, a1), (9, 0), (9, 0)] [] c Q) : CV K (d + 1) mX6_yearsGo [(2, t), (0, a1)] c Q := CM_ofS (by decide) (Nat.le_of_ble_eq_true rfl) _ rfl h
set_option maxRecDepth 100000 in
theorem s_X6_pourAt_0 {K : SK} {d : Nat} {c : ct} {Q : ct → Prop} (t : Int) (ht : isTab t) (a1 : Int) (h : ∀ c1 : ct, c1 = up2 c t 11 a1 → ((0 ≤ a1 ∧ a1 < 6)) ∧ (ir (c1 (t + 8) a1)) ∧ ((c1 (t + 8) a1) < 0 → Q c1) ∧ (¬ ((c1 (t + 8) a1) < 0) → ((0 ≤ a1 ∧ a1 < 6)) ∧ ((0 ≤ (c1 (t + 8) a1) ∧ (c1 (t + 8) a1) < 6)) ∧ ∀ c6 : ct, c6 = up2 c1 (t + 5) (c1 (t + 8) a1) 0 → Q c6)) : WV K (d + 1) mX6_pourAt 0 [(2, t), (0, a1)] [] c Q := by
  refine R_aload_n (pc' := 1) dX6_pourAt_0 rfl (tab_s ht).1 rfl ?_
  refine R_iload_n (pc' := 2) dX6_pourAt_1 rfl rfl ?_
  refine Q_putfi (J := 11) (pc' := 5) rfl dX6_pourAt_2 l_RX6_59 (tab_s ht) fd6_11.1 fd6_11.2.1 fd6_11.2.2.2.1 fd6_11.2.2.2.2 rfl (fun c1 hc1 => ?_)
  have h := h c1 hc1
  refine R_aload_n (pc' := 6) dX6_pourAt_5 rfl (tab_s ht).1 rfl ?_
  refine Q_getfr (v := (t + 8)) (J := 7) (pc' := 9) rfl dX6_pourAt_6 l_RX6_34 (tab_s ht) fd6_7.1 fd6_7.2.1 fd6_7.2.2.1 fd6_7.2.2.2 (tab_f7 ht) rfl ?_
  refine R_iload_n (pc' := 10) dX6_pourAt_9 rfl rfl ?_
  have hs2 := h.1
  have h := h.2
  refine Q_iaload (N := 6) (pc' := 11) rfl dX6_pourAt_10 (tab_7 ht) (by decide) hs2 rfl ?_
  have hs4 := h.1
  have h := h.2
  refine R_if_lt (tgt := 26) (pc' := 14) dX6_pourAt_11 (by decide) hs4  rfl (fun hc3 => ?_) (fun hc3 => ?_)
  · have h := h.1 hc3
    exact Q_ret dX6_pourAt_26 rfl h
  · have h := h.2 hc3
    refine R_aload_n (pc' := 15) dX6_pourAt_14 rfl (tab_s ht).1 rfl ?_
    refine Q_getfr (v := (t + 5)) (J := 4) (pc' := 18) rfl dX6_pourAt_15 l_RX6_24 (tab_s ht) fd6_4.1 fd6_4.2.1 fd6_4.2.2.1 fd6_4.2.2.2 (tab_f4 ht) rfl ?_
    refine R_aload_n (pc' := 19) dX6_pourAt_18 rfl (tab_s ht).1 rfl ?_
    refine Q_getfr (v := (t + 8)) (J := 7) (pc' := 22) rfl dX6_pourAt_19 l_RX6_34 (tab_s ht) fd6_7.1 fd6_7.2.1 fd6_7.2.2.1 fd6_7.2.2.2 (tab_f7 ht) rfl ?_
    refine R_iload_n (pc' := 23) dX6_pourAt_22 rfl rfl ?_
    have hs5 := h.1
    have h := h.2
    refine Q_iaload (N := 6) (pc' := 24) rfl dX6_pourAt_23 (tab_7 ht) (by decide) hs5 rfl ?_
    refine R_iconst (pc' := 25) dX6_pourAt_24 rfl ?_
    have hs7 := h.1
    have h := h.2
    refine Q_zastore (N := 6) (pc' := 26) rfl dX6_pourAt_25 (tab_4 ht) (by decide) hs7 (Or.inl rfl) rfl (fun c6 hc6 => ?_)
    have h := h c6 hc6
    exact Q_ret dX6_pourAt_26 rfl h
theorem e_X6_pourAt {K : SK} {d : Nat} {c : ct} {Q : ct → Prop} (t : Int) (ht : isTab t) (a1 : Int) (h : WV K (d + 1) mX6_pourAt 0 [(2, t), (0, a1)] [] c Q) : CV K (d + 1) mX6_pourAt [(2, t), (0, a1)] c Q := CM_ofS (by decide) (Nat.le_of_ble_eq_true rfl) _ rfl h
set_option maxRecDepth 100000 in
theorem s_X6_emptyCups_0 {K : SK} {d : Nat} {c : ct} {Q : ct → Int → Prop} (t : Int) (ht : isTab t) (h : WI K (d + 1) mX6_emptyCups 4 [(2, t), (0, 0), (0, 0)] [] c Q) : WI K (d + 1) mX6_emptyCups 0 [(2, t), (9, 0), (9, 0)] [] c Q := by
  refine R_iconst (pc' := 1) dX6_emptyCups_0 rfl ?_
  refine R_istore_n (L' := [_, _, _]) (pc' := 2) dX6_emptyCups_1 (by decide) rfl rfl rfl ?_
  refine R_iconst (pc' := 3) dX6_emptyCups_2 rfl ?_
  refine R_istore_n (L' := [_, _, _]) (pc' := 4) dX6_emptyCups_3 (by decide) rfl rfl rfl ?_
  exact WP_wk (wk_e (wk_e (wk_e wk_n))) h
set_option maxRecDepth 100000 in
theorem s_X6_emptyCups_4 {K : SK} {d : Nat} {c : ct} {Q : ct → Int → Prop} (t : Int) (ht : isTab t) (a1 : Int) (a2 : Int) (h : (ir a2 ∧ ir (c t 10)) ∧ ((c t 10) ≤ a2 → Q c a1) ∧ (¬ ((c t 10) ≤ a2) → ((0 ≤ a2 ∧ a2 < 6)) ∧ CI K d mX8_oneIf [(0, (c (t + 5) a2))] c (fun c4 r5 => WI K (d + 1) mX6_emptyCups 4 [(2, t), (0, (bOr a1 (bShl r5 a2))), (0, (a2 + 1))] [] c4 Q))) : WI K (d + 1) mX6_emptyCups 4 [(2, t), (0, a1), (0, a2)] [] c Q := by
  refine R_iload_n (pc' := 5) dX6_emptyCups_4 rfl rfl ?_
  refine R_aload_n (pc' := 6) dX6_emptyCups_5 rfl (tab_s ht).1 rfl ?_
  refine Q_getfi (J := 10) (pc' := 9) rfl dX6_emptyCups_6 l_RX6_55 (tab_s ht) fd6_10.1 fd6_10.2.1 fd6_10.2.2.1 rfl ?_
  have hs2 := h.1
  have h := h.2
  refine R_icmp_ge (tgt := 32) (pc' := 12) dX6_emptyCups_9 (by decide) hs2.1 hs2.2 rfl (fun hc1 => ?_) (fun hc1 => ?_)
  · have h := h.1 hc1
    refine R_iload_n (pc' := 33) dX6_emptyCups_32 rfl rfl ?_
    exact Q_iret dX6_emptyCups_33 rfl h
  · have h := h.2 hc1
    refine R_iload_n (pc' := 13) dX6_emptyCups_12 rfl rfl ?_
    refine R_aload_n (pc' := 14) dX6_emptyCups_13 rfl (tab_s ht).1 rfl ?_
    refine Q_getfr (v := (t + 5)) (J := 4) (pc' := 17) rfl dX6_emptyCups_14 l_RX6_24 (tab_s ht) fd6_4.1 fd6_4.2.1 fd6_4.2.2.1 fd6_4.2.2.2 (tab_f4 ht) rfl ?_
    refine R_iload_n (pc' := 18) dX6_emptyCups_17 rfl rfl ?_
    have hs3 := h.1
    have h := h.2
    refine Q_zaload (N := 6) (pc' := 19) rfl dX6_emptyCups_18 (tab_4 ht) (by decide) hs3 rfl ?_
    refine Q_callSNI (vs := [(0, (c (t + 5) a2))]) (st := [(0, a1)]) (pc' := 22) dX6_emptyCups_19 l_RX6_112 rfl (Nat.le_of_ble_eq_true rfl) rfl (Nat.zero_le _) (Nat.zero_le _) rfl ?_
    refine CI.mono h (fun c4 r5 h => ?_)
    refine R_iload_n (pc' := 23) dX6_emptyCups_22 rfl rfl ?_
    refine R_ishl (pc' := 24) dX6_emptyCups_23 rfl ?_
    refine R_ior (pc' := 25) dX6_emptyCups_24 rfl ?_
    refine R_istore_n (L' := [_, _, _]) (pc' := 26) dX6_emptyCups_25 (by decide) rfl rfl rfl ?_
    refine R_iinc (L' := [_, _, _]) (pc' := 29) dX6_emptyCups_26 rfl (by decide) rfl rfl rfl ?_
    refine R_goto (tgt := 4) dX6_emptyCups_29 (by decide) ?_
    exact WP_wk (wk_e (wk_e (wk_e wk_n))) h
theorem e_X6_emptyCups {K : SK} {d : Nat} {c : ct} {Q : ct → Int → Prop} (t : Int) (ht : isTab t) (h : WI K (d + 1) mX6_emptyCups 0 [(2, t), (9, 0), (9, 0)] [] c Q) : CI K (d + 1) mX6_emptyCups [(2, t)] c Q := CM_ofS (by decide) (Nat.le_of_ble_eq_true rfl) _ rfl h
set_option maxRecDepth 100000 in
theorem s_X6_usedOfAll_0 {K : SK} {d : Nat} {c : ct} {Q : ct → Int → Prop} (t : Int) (ht : isTab t) (h : WI K (d + 1) mX6_usedOfAll 4 [(2, t), (0, 0), (0, 0)] [] c Q) : WI K (d + 1) mX6_usedOfAll 0 [(2, t), (9, 0), (9, 0)] [] c Q := by
  refine R_iconst (pc' := 1) dX6_usedOfAll_0 rfl ?_
  refine R_istore_n (L' := [_, _, _]) (pc' := 2) dX6_usedOfAll_1 (by decide) rfl rfl rfl ?_
  refine R_iconst (pc' := 3) dX6_usedOfAll_2 rfl ?_
  refine R_istore_n (L' := [_, _, _]) (pc' := 4) dX6_usedOfAll_3 (by decide) rfl rfl rfl ?_
  exact WP_wk (wk_e (wk_e (wk_e wk_n))) h
set_option maxRecDepth 100000 in
theorem s_X6_usedOfAll_4 {K : SK} {d : Nat} {c : ct} {Q : ct → Int → Prop} (t : Int) (ht : isTab t) (a1 : Int) (a2 : Int) (h : (ir a2 ∧ ir (c t 10)) ∧ ((c t 10) ≤ a2 → Q c a1) ∧ (¬ ((c t 10) ≤ a2) → ((0 ≤ a2 ∧ a2 < 6)) ∧ WI K (d + 1) mX6_usedOfAll 4 [(2, t), (0, (a1 + (c (t + 4) a2))), (0, (a2 + 1))] [] c Q)) : WI K (d + 1) mX6_usedOfAll 4 [(2, t), (0, a1), (0, a2)] [] c Q := by
  refine R_iload_n (pc' := 5) dX6_usedOfAll_4 rfl rfl ?_
  refine R_aload_n (pc' := 6) dX6_usedOfAll_5 rfl (tab_s ht).1 rfl ?_
  refine Q_getfi (J := 10) (pc' := 9) rfl dX6_usedOfAll_6 l_RX6_55 (tab_s ht) fd6_10.1 fd6_10.2.1 fd6_10.2.2.1 rfl ?_
  have hs2 := h.1
  have h := h.2
  refine R_icmp_ge (tgt := 27) (pc' := 12) dX6_usedOfAll_9 (by decide) hs2.1 hs2.2 rfl (fun hc1 => ?_) (fun hc1 => ?_)
  · have h := h.1 hc1
    refine R_iload_n (pc' := 28) dX6_usedOfAll_27 rfl rfl ?_
    exact Q_iret dX6_usedOfAll_28 rfl h
  · have h := h.2 hc1
    refine R_iload_n (pc' := 13) dX6_usedOfAll_12 rfl rfl ?_
    refine R_aload_n (pc' := 14) dX6_usedOfAll_13 rfl (tab_s ht).1 rfl ?_
    refine Q_getfr (v := (t + 4)) (J := 3) (pc' := 17) rfl dX6_usedOfAll_14 l_RX6_21 (tab_s ht) fd6_3.1 fd6_3.2.1 fd6_3.2.2.1 fd6_3.2.2.2 (tab_f3 ht) rfl ?_
    refine R_iload_n (pc' := 18) dX6_usedOfAll_17 rfl rfl ?_
    have hs3 := h.1
    have h := h.2
    refine Q_iaload (N := 6) (pc' := 19) rfl dX6_usedOfAll_18 (tab_3 ht) (by decide) hs3 rfl ?_
    refine R_iadd (pc' := 20) dX6_usedOfAll_19 rfl ?_
    refine R_istore_n (L' := [_, _, _]) (pc' := 21) dX6_usedOfAll_20 (by decide) rfl rfl rfl ?_
    refine R_iinc (L' := [_, _, _]) (pc' := 24) dX6_usedOfAll_21 rfl (by decide) rfl rfl rfl ?_
    refine R_goto (tgt := 4) dX6_usedOfAll_24 (by decide) ?_
    exact WP_wk (wk_e (wk_e (wk_e wk_n))) h
theorem e_X6_usedOfAll {K : SK} {d : Nat} {c : ct} {Q : ct → Int → Prop} (t : Int) (ht : isTab t) (h : WI K (d + 1) mX6_usedOfAll 0 [(2, t), (9, 0), (9, 0)] [] c Q) : CI K (d + 1) mX6_usedOfAll [(2, t)] c Q := CM_ofS (by decide) (Nat.le_of_ble_eq_true rfl) _ rfl h
set_option maxRecDepth 100000 in
theorem s_X6_round_0 {K : SK} {d : Nat} {c : ct} {Q : ct → Int → Prop} (t : Int) (ht : isTab t) (h : CI K d mX6_stepsOn [(2, t)] c (fun c1 r2 => CI K d mX6_stepsBack [(2, t)] c1 (fun c3 r4 => (ir r2 ∧ ir r4) ∧ Q c3 (if r4 < r2 then r4 else r2)))) : WI K (d + 1) mX6_round 0 [(2, t)] [] c Q := by
  refine R_aload_n (pc' := 1) dX6_round_0 rfl (tab_s ht).1 rfl ?_
  refine Q_callVI (vs := []) (st := []) (pc' := 4) dX6_round_1 l_RX6_116 (tab_s ht) (by decide) rfl rfl (Nat.le_of_ble_eq_true rfl) rfl (Nat.zero_le _) (Nat.zero_le _) rfl ?_
  refine CI.mono h (fun c1 r2 h => ?_)
  refine R_aload_n (pc' := 5) dX6_round_4 rfl (tab_s ht).1 rfl ?_
  refine Q_callVI (vs := []) (st := [(0, r2)]) (pc' := 8) dX6_round_5 l_RX6_119 (tab_s ht) (by decide) rfl rfl (Nat.le_of_ble_eq_true rfl) rfl (Nat.zero_le _) (Nat.zero_le _) rfl ?_
  refine CI.mono h (fun c3 r4 h => ?_)
  have hs5 := h.1
  have h := h.2
  refine R_mmin (pc' := 11) dX6_round_8 (by omega) hs5.1 hs5.2 (Nat.le_of_ble_eq_true rfl) (Nat.zero_le _) (Nat.zero_le _) l_RX6_122 w_mmins w_ini_java_lang_Math w_mminc rfl ?_
  exact Q_iret dX6_round_11 rfl h
theorem e_X6_round {K : SK} {d : Nat} {c : ct} {Q : ct → Int → Prop} (t : Int) (ht : isTab t) (h : WI K (d + 1) mX6_round 0 [(2, t)] [] c Q) : CI K (d + 1) mX6_round [(2, t)] c Q := CM_ofS (by decide) (Nat.le_of_ble_eq_true rfl) _ rfl h
set_option maxRecDepth 100000 in
theorem s_X6_toward_0 {K : SK} {d : Nat} {c : ct} {Q : ct → Int → Prop} (t : Int) (ht : isTab t) (h : CI K d mX6_round [(2, t)] c (fun c1 r2 => (r2 = 0 → Q c1 0) ∧ (¬ (r2 = 0) → ir r2 ∧ CI K d mX6_stepsOn [(2, t)] c1 (fun c4 r5 => (r5 = r2 → Q c4 1) ∧ (¬ (r5 = r2) → (ir r5 ∧ ir r2) ∧ Q c4 2))))) : WI K (d + 1) mX6_toward 0 [(2, t), (9, 0)] [] c Q := by
  refine R_aload_n (pc' := 1) dX6_toward_0 rfl (tab_s ht).1 rfl ?_
  refine Q_callVI (vs := []) (st := []) (pc' := 4) dX6_toward_1 l_RX6_127 (tab_s ht) (by decide) rfl rfl (Nat.le_of_ble_eq_true rfl) rfl (Nat.zero_le _) (Nat.zero_le _) rfl ?_
  refine CI.mono h (fun c1 r2 h => ?_)
  refine R_istore_n (L' := [_, _]) (pc' := 5) dX6_toward_4 (by decide) rfl rfl rfl ?_
  refine R_iload_n (pc' := 6) dX6_toward_5 rfl rfl ?_
  by_cases hc3 : r2 = 0
  · have h := h.1 hc3
    refine R_neS_if (tgt := 11) (pc' := 9) dX6_toward_6 (by decide) hc3 rfl ?_
    refine R_iconst (pc' := 10) dX6_toward_9 rfl ?_
    exact Q_iret dX6_toward_10 rfl h
  · have h := h.2 hc3
    refine R_neD_if (tgt := 11) (pc' := 9) dX6_toward_6 (by decide) hc3 h.1 rfl ?_
    have h := h.2
    refine R_aload_n (pc' := 12) dX6_toward_11 rfl (tab_s ht).1 rfl ?_
    refine Q_callVI (vs := []) (st := []) (pc' := 15) dX6_toward_12 l_RX6_116 (tab_s ht) (by decide) rfl rfl (Nat.le_of_ble_eq_true rfl) rfl (Nat.zero_le _) (Nat.zero_le _) rfl ?_
    refine CI.mono h (fun c4 r5 h => ?_)
    refine R_iload_n (pc' := 16) dX6_toward_15 rfl rfl ?_
    by_cases hc6 : r5 = r2
    · have h := h.1 hc6
      refine R_neS_ic (tgt := 23) (pc' := 19) dX6_toward_16 (by decide) hc6 rfl ?_
      refine R_iconst (pc' := 20) dX6_toward_19 rfl ?_
      refine R_goto (tgt := 24) dX6_toward_20 (by decide) ?_
      exact Q_iret dX6_toward_24 rfl h
    · have h := h.2 hc6
      refine R_neD_ic (tgt := 23) (pc' := 19) dX6_toward_16 (by decide) hc6 h.1 rfl ?_
      have h := h.2
      refine R_iconst (pc' := 24) dX6_toward_23 rfl ?_
      exact Q_iret dX6_toward_24 rfl h
theorem e_X6_toward {K : SK} {d : Nat} {c : ct} {Q : ct → Int → Prop} (t : Int) (ht : isTab t) (h : WI K (d + 1) mX6_toward 0 [(2, t), (9, 0)] [] c Q) : CI K (d + 1) mX6_toward [(2, t)] c Q := CM_ofS (by decide) (Nat.le_of_ble_eq_true rfl) _ rfl h
set_option maxRecDepth 100000 in
theorem s_X6_stepsOn_0 {K : SK} {d : Nat} {c : ct} {Q : ct → Int → Prop} (t : Int) (ht : isTab t) (h : WI K (d + 1) mX6_stepsOn 4 [(2, t), (0, 0), (0, 1), (9, 0), (9, 0)] [] c Q) : WI K (d + 1) mX6_stepsOn 0 [(2, t), (9, 0), (9, 0), (9, 0), (9, 0)] [] c Q := by
  refine R_iconst (pc' := 1) dX6_stepsOn_0 rfl ?_
  refine R_istore_n (L' := [_, _, _, _, _]) (pc' := 2) dX6_stepsOn_1 (by decide) rfl rfl rfl ?_
  refine R_iconst (pc' := 3) dX6_stepsOn_2 rfl ?_
  refine R_istore_n (L' := [_, _, _, _, _]) (pc' := 4) dX6_stepsOn_3 (by decide) rfl rfl rfl ?_
  exact WP_wk (wk_e (wk_e (wk_e (wk_u (wk_u wk_n))))) h
set_option maxRecDepth 100000 in
theorem s_X6_stepsOn_4 {K : SK} {d : Nat} {c : ct} {Q : ct → Int → Prop} (t : Int) (ht : isTab t) (a1 : Int) (a2 : Int) (h : (ir a2) ∧ (6 ≤ a2 → CI K d mX6_farthestBack [(2, t), (0, 0)] c (fun c3 r4 => (r4 = 0 → Q c3 0) ∧ (¬ (r4 = 0) → ir r4 ∧ Q c3 a1))) ∧ (¬ (6 ≤ a2) → CI K d mX6_farthestBack [(2, t), (0, a2)] c (fun c6 r7 => (r7 = 0 → (a1 = 0 → WI K (d + 1) mX6_stepsOn 4 [(2, t), (0, a2), (0, (a2 + 1)), (9, 0), (9, 0)] [] c6 Q) ∧ (¬ (a1 = 0) → ir a1 ∧ (ir a1 ∧ ir a2) ∧ WI K (d + 1) mX6_stepsOn 4 [(2, t), (0, (if a2 < a1 then a2 else a1)), (0, (a2 + 1)), (9, 0), (9, 0)] [] c6 Q)) ∧ (¬ (r7 = 0) → ir r7 ∧ (a1 = 0 → WI K (d + 1) mX6_stepsOn 4 [(2, t), (0, ((a2 + a2) + r7)), (0, (a2 + 1)), (9, 0), (9, 0)] [] c6 Q) ∧ (¬ (a1 = 0) → ir a1 ∧ (ir a1 ∧ ir ((a2 + a2) + r7)) ∧ WI K (d + 1) mX6_stepsOn 4 [(2, t), (0, (if ((a2 + a2) + r7) < a1 then ((a2 + a2) + r7) else a1)), (0, (a2 + 1)), (9, 0), (9, 0)] [] c6 Q))))) : WI K (d + 1) mX6_stepsOn 4 [(2, t), (0, a1), (0, a2), (9, 0), (9, 0)] [] c Q := by
  refine R_iload_n (pc' := 5) dX6_stepsOn_4 rfl rfl ?_
  refine R_bipush (pc' := 7) dX6_stepsOn_5 (by decide) rfl ?_
  have hs2 := h.1
  have h := h.2
  refine R_icmp_ge (tgt := 53) (pc' := 10) dX6_stepsOn_7 (by decide) hs2 (ir_l (by decide) (by decide)) rfl (fun hc1 => ?_) (fun hc1 => ?_)
  · have h := h.1 hc1
    refine R_aload_n (pc' := 54) dX6_stepsOn_53 rfl (tab_s ht).1 rfl ?_
    refine R_iconst (pc' := 55) dX6_stepsOn_54 rfl ?_
    refine Q_callVI (vs := [(0, 0)]) (st := []) (pc' := 58) dX6_stepsOn_55 l_RX6_130 (tab_s ht) (by decide) rfl rfl (Nat.le_of_ble_eq_true rfl) rfl (Nat.zero_le _) (Nat.zero_le _) rfl ?_
    refine CI.mono h (fun c3 r4 h => ?_)
    by_cases hc5 : r4 = 0
    · have h := h.1 hc5
      refine R_neS_if (tgt := 65) (pc' := 61) dX6_stepsOn_58 (by decide) hc5 rfl ?_
      refine R_iconst (pc' := 62) dX6_stepsOn_61 rfl ?_
      refine R_goto (tgt := 66) dX6_stepsOn_62 (by decide) ?_
      exact Q_iret dX6_stepsOn_66 rfl h
    · have h := h.2 hc5
      refine R_neD_if (tgt := 65) (pc' := 61) dX6_stepsOn_58 (by decide) hc5 h.1 rfl ?_
      have h := h.2
      refine R_iload_n (pc' := 66) dX6_stepsOn_65 rfl rfl ?_
      exact Q_iret dX6_stepsOn_66 rfl h
  · have h := h.2 hc1
    refine R_aload_n (pc' := 11) dX6_stepsOn_10 rfl (tab_s ht).1 rfl ?_
    refine R_iload_n (pc' := 12) dX6_stepsOn_11 rfl rfl ?_
    refine Q_callVI (vs := [(0, a2)]) (st := []) (pc' := 15) dX6_stepsOn_12 l_RX6_130 (tab_s ht) (by decide) rfl rfl (Nat.le_of_ble_eq_true rfl) rfl (Nat.zero_le _) (Nat.zero_le _) rfl ?_
    refine CI.mono h (fun c6 r7 h => ?_)
    refine R_istore_n (L' := [_, _, _, _, _]) (pc' := 16) dX6_stepsOn_15 (by decide) rfl rfl rfl ?_
    refine R_iload_n (pc' := 17) dX6_stepsOn_16 rfl rfl ?_
    by_cases hc8 : r7 = 0
    · have h := h.1 hc8
      refine R_neS_if (tgt := 24) (pc' := 20) dX6_stepsOn_17 (by decide) hc8 rfl ?_
      refine R_iload_n (pc' := 21) dX6_stepsOn_20 rfl rfl ?_
      refine R_goto (tgt := 29) dX6_stepsOn_21 (by decide) ?_
      refine R_istore (L' := [_, _, _, _, _]) (pc' := 31) dX6_stepsOn_29 (by decide) rfl rfl rfl ?_
      refine R_iload_n (pc' := 32) dX6_stepsOn_31 rfl rfl ?_
      by_cases hc9 : a1 = 0
      · have h := h.1 hc9
        refine R_neS_if (tgt := 40) (pc' := 35) dX6_stepsOn_32 (by decide) hc9 rfl ?_
        refine R_iload (pc' := 37) dX6_stepsOn_35 rfl rfl ?_
        refine R_goto (tgt := 46) dX6_stepsOn_37 (by decide) ?_
        refine R_istore_n (L' := [_, _, _, _, _]) (pc' := 47) dX6_stepsOn_46 (by decide) rfl rfl rfl ?_
        refine R_iinc (L' := [_, _, _, _, _]) (pc' := 50) dX6_stepsOn_47 rfl (by decide) rfl rfl rfl ?_
        refine R_goto (tgt := 4) dX6_stepsOn_50 (by decide) ?_
        exact WP_wk (wk_e (wk_e (wk_e (wk_u (wk_u wk_n))))) h
      · have h := h.2 hc9
        refine R_neD_if (tgt := 40) (pc' := 35) dX6_stepsOn_32 (by decide) hc9 h.1 rfl ?_
        have h := h.2
        refine R_iload_n (pc' := 41) dX6_stepsOn_40 rfl rfl ?_
        refine R_iload (pc' := 43) dX6_stepsOn_41 rfl rfl ?_
        have hs10 := h.1
        have h := h.2
        refine R_mmin (pc' := 46) dX6_stepsOn_43 (by omega) hs10.1 hs10.2 (Nat.le_of_ble_eq_true rfl) (Nat.zero_le _) (Nat.zero_le _) l_RX6_122 w_mmins w_ini_java_lang_Math w_mminc rfl ?_
        refine R_istore_n (L' := [_, _, _, _, _]) (pc' := 47) dX6_stepsOn_46 (by decide) rfl rfl rfl ?_
        refine R_iinc (L' := [_, _, _, _, _]) (pc' := 50) dX6_stepsOn_47 rfl (by decide) rfl rfl rfl ?_
        refine R_goto (tgt := 4) dX6_stepsOn_50 (by decide) ?_
        exact WP_wk (wk_e (wk_e (wk_e (wk_u (wk_u wk_n))))) h
    · have h := h.2 hc8
      refine R_neD_if (tgt := 24) (pc' := 20) dX6_stepsOn_17 (by decide) hc8 h.1 rfl ?_
      have h := h.2
      refine R_iload_n (pc' := 25) dX6_stepsOn_24 rfl rfl ?_
      refine R_iload_n (pc' := 26) dX6_stepsOn_25 rfl rfl ?_
      refine R_iadd (pc' := 27) dX6_stepsOn_26 rfl ?_
      refine R_iload_n (pc' := 28) dX6_stepsOn_27 rfl rfl ?_
      refine R_iadd (pc' := 29) dX6_stepsOn_28 rfl ?_
      refine R_istore (L' := [_, _, _, _, _]) (pc' := 31) dX6_stepsOn_29 (by decide) rfl rfl rfl ?_
      refine R_iload_n (pc' := 32) dX6_stepsOn_31 rfl rfl ?_
      by_cases hc11 : a1 = 0
      · have h := h.1 hc11
        refine R_neS_if (tgt := 40) (pc' := 35) dX6_stepsOn_32 (by decide) hc11 rfl ?_
        refine R_iload (pc' := 37) dX6_stepsOn_35 rfl rfl ?_
        refine R_goto (tgt := 46) dX6_stepsOn_37 (by decide) ?_
        refine R_istore_n (L' := [_, _, _, _, _]) (pc' := 47) dX6_stepsOn_46 (by decide) rfl rfl rfl ?_
        refine R_iinc (L' := [_, _, _, _, _]) (pc' := 50) dX6_stepsOn_47 rfl (by decide) rfl rfl rfl ?_
        refine R_goto (tgt := 4) dX6_stepsOn_50 (by decide) ?_
        exact WP_wk (wk_e (wk_e (wk_e (wk_u (wk_u wk_n))))) h
      · have h := h.2 hc11
        refine R_neD_if (tgt := 40) (pc' := 35) dX6_stepsOn_32 (by decide) hc11 h.1 rfl ?_
        have h := h.2
        refine R_iload_n (pc' := 41) dX6_stepsOn_40 rfl rfl ?_
        refine R_iload (pc' := 43) dX6_stepsOn_41 rfl rfl ?_
        have hs12 := h.1
        have h := h.2
        refine R_mmin (pc' := 46) dX6_stepsOn_43 (by omega) hs12.1 hs12.2 (Nat.le_of_ble_eq_true rfl) (Nat.zero_le _) (Nat.zero_le _) l_RX6_122 w_mmins w_ini_java_lang_Math w_mminc rfl ?_
        refine R_istore_n (L' := [_, _, _, _, _]) (pc' := 47) dX6_stepsOn_46 (by decide) rfl rfl rfl ?_
        refine R_iinc (L' := [_, _, _, _, _]) (pc' := 50) dX6_stepsOn_47 rfl (by decide) rfl rfl rfl ?_
        refine R_goto (tgt := 4) dX6_stepsOn_50 (by decide) ?_
        exact WP_wk (wk_e (wk_e (wk_e (wk_u (wk_u wk_n))))) h
theorem e_X6_stepsOn {K : SK} {d : Nat} {c : ct} {Q : ct → Int → Prop} (t : Int) (ht : isTab t) (h : WI K (d + 1) mX6_stepsOn 0 [(2, t), (9, 0), (9, 0), (9, 0), (9, 0)] [] c Q) : CI K (d + 1) mX6_stepsOn [(2, t)] c Q := CM_ofS (by decide) (Nat.le_of_ble_eq_true rfl) _ rfl h
set_option maxRecDepth 100000 in
theorem s_X6_stepsBack_0 {K : SK} {d : Nat} {c : ct} {Q : ct → Int → Prop} (t : Int) (ht : isTab t) (h : CI K d mX6_farthestBack [(2, t), (0, 0)] c (fun c1 r2 => WI K (d + 1) mX6_stepsBack 8 [(2, t), (0, r2), (0, 1), (9, 0)] [] c1 Q)) : WI K (d + 1) mX6_stepsBack 0 [(2, t), (9, 0), (9, 0), (9, 0)] [] c Q := by
  refine R_aload_n (pc' := 1) dX6_stepsBack_0 rfl (tab_s ht).1 rfl ?_
  refine R_iconst (pc' := 2) dX6_stepsBack_1 rfl ?_
  refine Q_callVI (vs := [(0, 0)]) (st := []) (pc' := 5) dX6_stepsBack_2 l_RX6_130 (tab_s ht) (by decide) rfl rfl (Nat.le_of_ble_eq_true rfl) rfl (Nat.zero_le _) (Nat.zero_le _) rfl ?_
  refine CI.mono h (fun c1 r2 h => ?_)
  refine R_istore_n (L' := [_, _, _, _]) (pc' := 6) dX6_stepsBack_5 (by decide) rfl rfl rfl ?_
  refine R_iconst (pc' := 7) dX6_stepsBack_6 rfl ?_
  refine R_istore_n (L' := [_, _, _, _]) (pc' := 8) dX6_stepsBack_7 (by decide) rfl rfl rfl ?_
  exact WP_wk (wk_e (wk_e (wk_e (wk_u wk_n)))) h
set_option maxRecDepth 100000 in
theorem s_X6_stepsBack_8 {K : SK} {d : Nat} {c : ct} {Q : ct → Int → Prop} (t : Int) (ht : isTab t) (a1 : Int) (a2 : Int) (h : (ir a2) ∧ (6 ≤ a2 → Q c a1) ∧ (¬ (6 ≤ a2) → CI K d mX6_farthestBack [(2, t), (0, a2)] c (fun c3 r4 => (ir r4) ∧ (r4 ≤ 0 → WI K (d + 1) mX6_stepsBack 8 [(2, t), (0, a1), (0, (a2 + 1)), (9, 0)] [] c3 Q) ∧ (¬ (r4 ≤ 0) → (ir a1 ∧ ir ((r4 + r4) + a2)) ∧ WI K (d + 1) mX6_stepsBack 8 [(2, t), (0, (if ((r4 + r4) + a2) < a1 then ((r4 + r4) + a2) else a1)), (0, (a2 + 1)), (9, 0)] [] c3 Q)))) : WI K (d + 1) mX6_stepsBack 8 [(2, t), (0, a1), (0, a2), (9, 0)] [] c Q := by
  refine R_iload_n (pc' := 9) dX6_stepsBack_8 rfl rfl ?_
  refine R_bipush (pc' := 11) dX6_stepsBack_9 (by decide) rfl ?_
  have hs2 := h.1
  have h := h.2
  refine R_icmp_ge (tgt := 40) (pc' := 14) dX6_stepsBack_11 (by decide) hs2 (ir_l (by decide) (by decide)) rfl (fun hc1 => ?_) (fun hc1 => ?_)
  · have h := h.1 hc1
    refine R_iload_n (pc' := 41) dX6_stepsBack_40 rfl rfl ?_
    exact Q_iret dX6_stepsBack_41 rfl h
  · have h := h.2 hc1
    refine R_aload_n (pc' := 15) dX6_stepsBack_14 rfl (tab_s ht).1 rfl ?_
    refine R_iload_n (pc' := 16) dX6_stepsBack_15 rfl rfl ?_
    refine Q_callVI (vs := [(0, a2)]) (st := []) (pc' := 19) dX6_stepsBack_16 l_RX6_130 (tab_s ht) (by decide) rfl rfl (Nat.le_of_ble_eq_true rfl) rfl (Nat.zero_le _) (Nat.zero_le _) rfl ?_
    refine CI.mono h (fun c3 r4 h => ?_)
    refine R_istore_n (L' := [_, _, _, _]) (pc' := 20) dX6_stepsBack_19 (by decide) rfl rfl rfl ?_
    refine R_iload_n (pc' := 21) dX6_stepsBack_20 rfl rfl ?_
    have hs6 := h.1
    have h := h.2
    refine R_if_le (tgt := 34) (pc' := 24) dX6_stepsBack_21 (by decide) hs6  rfl (fun hc5 => ?_) (fun hc5 => ?_)
    · have h := h.1 hc5
      refine R_iinc (L' := [_, _, _, _]) (pc' := 37) dX6_stepsBack_34 rfl (by decide) rfl rfl rfl ?_
      refine R_goto (tgt := 8) dX6_stepsBack_37 (by decide) ?_
      exact WP_wk (wk_e (wk_e (wk_e (wk_u wk_n)))) h
    · have h := h.2 hc5
      refine R_iload_n (pc' := 25) dX6_stepsBack_24 rfl rfl ?_
      refine R_iload_n (pc' := 26) dX6_stepsBack_25 rfl rfl ?_
      refine R_iload_n (pc' := 27) dX6_stepsBack_26 rfl rfl ?_
      refine R_iadd (pc' := 28) dX6_stepsBack_27 rfl ?_
      refine R_iload_n (pc' := 29) dX6_stepsBack_28 rfl rfl ?_
      refine R_iadd (pc' := 30) dX6_stepsBack_29 rfl ?_
      have hs7 := h.1
      have h := h.2
      refine R_mmin (pc' := 33) dX6_stepsBack_30 (by omega) hs7.1 hs7.2 (Nat.le_of_ble_eq_true rfl) (Nat.zero_le _) (Nat.zero_le _) l_RX6_122 w_mmins w_ini_java_lang_Math w_mminc rfl ?_
      refine R_istore_n (L' := [_, _, _, _]) (pc' := 34) dX6_stepsBack_33 (by decide) rfl rfl rfl ?_
      refine R_iinc (L' := [_, _, _, _]) (pc' := 37) dX6_stepsBack_34 rfl (by decide) rfl rfl rfl ?_
      refine R_goto (tgt := 8) dX6_stepsBack_37 (by decide) ?_
      exact WP_wk (wk_e (wk_e (wk_e (wk_u wk_n)))) h
theorem e_X6_stepsBack {K : SK} {d : Nat} {c : ct} {Q : ct → Int → Prop} (t : Int) (ht : isTab t) (h : WI K (d + 1) mX6_stepsBack 0 [(2, t), (9, 0), (9, 0), (9, 0)] [] c Q) : CI K (d + 1) mX6_stepsBack [(2, t)] c Q := CM_ofS (by decide) (Nat.le_of_ble_eq_true rfl) _ rfl h
set_option maxRecDepth 100000 in
theorem s_X6_farthestBack_0 {K : SK} {d : Nat} {c : ct} {Q : ct → Int → Prop} (t : Int) (ht : isTab t) (a1 : Int) (h : WI K (d + 1) mX6_farthestBack 4 [(2, t), (9, 0), (0, (a1 + 1)), (9, 0)] [] c Q) : WI K (d + 1) mX6_farthestBack 0 [(2, t), (0, a1), (9, 0), (9, 0)] [] c Q := by
  refine R_iload_n (pc' := 1) dX6_farthestBack_0 rfl rfl ?_
  refine R_iconst (pc' := 2) dX6_farthestBack_1 rfl ?_
  refine R_iadd (pc' := 3) dX6_farthestBack_2 rfl ?_
  refine R_istore_n (L' := [_, _, _, _]) (pc' := 4) dX6_farthestBack_3 (by decide) rfl rfl rfl ?_
  exact WP_wk (wk_e (wk_u (wk_e (wk_u wk_n)))) h
set_option maxRecDepth 100000 in
theorem s_X6_farthestBack_4 {K : SK} {d : Nat} {c : ct} {Q : ct → Int → Prop} (t : Int) (ht : isTab t) (a2 : Int) (h : (ir a2) ∧ (6 ≤ a2 → Q c 0) ∧ (¬ (6 ≤ a2) → (ir ((c t 11) + a2)) ∧ ((0 ≤ (Int.tmod ((c t 11) + a2) 6) ∧ (Int.tmod ((c t 11) + a2) 6) < 6)) ∧ (ir (c (t + 8) (Int.tmod ((c t 11) + a2) 6))) ∧ ((c (t + 8) (Int.tmod ((c t 11) + a2) 6)) < 0 → WI K (d + 1) mX6_farthestBack 4 [(2, t), (9, 0), (0, (a2 + 1)), (9, 0)] [] c Q) ∧ (¬ ((c (t + 8) (Int.tmod ((c t 11) + a2) 6)) < 0) → ((0 ≤ (c (t + 8) (Int.tmod ((c t 11) + a2) 6)) ∧ (c (t + 8) (Int.tmod ((c t 11) + a2) 6)) < 6)) ∧ ((c (t + 5) (c (t + 8) (Int.tmod ((c t 11) + a2) 6))) = 0 → WI K (d + 1) mX6_farthestBack 4 [(2, t), (9, 0), (0, (a2 + 1)), (9, 0)] [] c Q) ∧ (¬ ((c (t + 5) (c (t + 8) (Int.tmod ((c t 11) + a2) 6))) = 0) → ir (c (t + 5) (c (t + 8) (Int.tmod ((c t 11) + a2) 6))) ∧ Q c (6 - a2))))) : WI K (d + 1) mX6_farthestBack 4 [(2, t), (9, 0), (0, a2), (9, 0)] [] c Q := by
  refine R_iload_n (pc' := 5) dX6_farthestBack_4 rfl rfl ?_
  refine R_bipush (pc' := 7) dX6_farthestBack_5 (by decide) rfl ?_
  have hs2 := h.1
  have h := h.2
  refine R_icmp_ge (tgt := 49) (pc' := 10) dX6_farthestBack_7 (by decide) hs2 (ir_l (by decide) (by decide)) rfl (fun hc1 => ?_) (fun hc1 => ?_)
  · have h := h.1 hc1
    refine R_iconst (pc' := 50) dX6_farthestBack_49 rfl ?_
    exact Q_iret dX6_farthestBack_50 rfl h
  · have h := h.2 hc1
    refine R_aload_n (pc' := 11) dX6_farthestBack_10 rfl (tab_s ht).1 rfl ?_
    refine Q_getfr (v := (t + 8)) (J := 7) (pc' := 14) rfl dX6_farthestBack_11 l_RX6_34 (tab_s ht) fd6_7.1 fd6_7.2.1 fd6_7.2.2.1 fd6_7.2.2.2 (tab_f7 ht) rfl ?_
    refine R_aload_n (pc' := 15) dX6_farthestBack_14 rfl (tab_s ht).1 rfl ?_
    refine Q_getfi (J := 11) (pc' := 18) rfl dX6_farthestBack_15 l_RX6_59 (tab_s ht) fd6_11.1 fd6_11.2.1 fd6_11.2.2.1 rfl ?_
    refine R_iload_n (pc' := 19) dX6_farthestBack_18 rfl rfl ?_
    refine R_iadd (pc' := 20) dX6_farthestBack_19 rfl ?_
    refine R_bipush (pc' := 22) dX6_farthestBack_20 (by decide) rfl ?_
    have hs3 := h.1
    have h := h.2
    refine R_irem (pc' := 23) dX6_farthestBack_22 (by decide) hs3 (ir_l (by decide) (by decide)) rfl ?_
    have hs4 := h.1
    have h := h.2
    refine Q_iaload (N := 6) (pc' := 24) rfl dX6_farthestBack_23 (tab_7 ht) (by decide) hs4 rfl ?_
    refine R_istore_n (L' := [_, _, _, _]) (pc' := 25) dX6_farthestBack_24 (by decide) rfl rfl rfl ?_
    refine R_iload_n (pc' := 26) dX6_farthestBack_25 rfl rfl ?_
    have hs6 := h.1
    have h := h.2
    refine R_if_lt (tgt := 43) (pc' := 29) dX6_farthestBack_26 (by decide) hs6  rfl (fun hc5 => ?_) (fun hc5 => ?_)
    · have h := h.1 hc5
      refine R_iinc (L' := [_, _, _, _]) (pc' := 46) dX6_farthestBack_43 rfl (by decide) rfl rfl rfl ?_
      refine R_goto (tgt := 4) dX6_farthestBack_46 (by decide) ?_
      exact WP_wk (wk_e (wk_u (wk_e (wk_u wk_n)))) h
    · have h := h.2 hc5
      refine R_aload_n (pc' := 30) dX6_farthestBack_29 rfl (tab_s ht).1 rfl ?_
      refine Q_getfr (v := (t + 5)) (J := 4) (pc' := 33) rfl dX6_farthestBack_30 l_RX6_24 (tab_s ht) fd6_4.1 fd6_4.2.1 fd6_4.2.2.1 fd6_4.2.2.2 (tab_f4 ht) rfl ?_
      refine R_iload_n (pc' := 34) dX6_farthestBack_33 rfl rfl ?_
      have hs7 := h.1
      have h := h.2
      refine Q_zaload (N := 6) (pc' := 35) rfl dX6_farthestBack_34 (tab_4 ht) (by decide) hs7 rfl ?_
      by_cases hc8 : (c (t + 5) (c (t + 8) (Int.tmod ((c t 11) + a2) 6))) = 0
      · have h := h.1 hc8
        refine R_eqS_if (tgt := 43) (pc' := 38) dX6_farthestBack_35 (by decide) hc8 rfl ?_
        refine R_iinc (L' := [_, _, _, _]) (pc' := 46) dX6_farthestBack_43 rfl (by decide) rfl rfl rfl ?_
        refine R_goto (tgt := 4) dX6_farthestBack_46 (by decide) ?_
        exact WP_wk (wk_e (wk_u (wk_e (wk_u wk_n)))) h
      · have h := h.2 hc8
        refine R_eqD_if (tgt := 43) (pc' := 38) dX6_farthestBack_35 (by decide) hc8 h.1 rfl ?_
        have h := h.2
        refine R_bipush (pc' := 40) dX6_farthestBack_38 (by decide) rfl ?_
        refine R_iload_n (pc' := 41) dX6_farthestBack_40 rfl rfl ?_
        refine R_isub (pc' := 42) dX6_farthestBack_41 rfl ?_
        exact Q_iret dX6_farthestBack_42 rfl h
theorem e_X6_farthestBack {K : SK} {d : Nat} {c : ct} {Q : ct → Int → Prop} (t : Int) (ht : isTab t) (a1 : Int) (h : WI K (d + 1) mX6_farthestBack 0 [(2, t), (0, a1), (9, 0), (9, 0)] [] c Q) : CI K (d + 1) mX6_farthestBack [(2, t), (0, a1)] c Q := CM_ofS (by decide) (Nat.le_of_ble_eq_true rfl) _ rfl h
