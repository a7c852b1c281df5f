/-! CONSTRUCTORS: the reference -/
set_option maxRecDepth 100000 in
theorem i_X9_108 {K : SK} {d : Nat} {c : ct} {Q : hp → av → Prop} (h : OKc 109 154 c) (hQ : ∀ c', OKc 153 258 c' → Q (153, SH, c') (8, 0)) : CM K (d + 1) mX9_init [(2, 108)] (109, SH, c) Q := by
  refine CM_ofS (by decide) (Nat.le_of_ble_eq_true rfl) [(2, 108)] rfl ?_
  refine R_aload_n (pc' := 1) dX9_init_0 rfl (by decide) rfl ?_
  refine R_objInit (pc' := 4) dX9_init_1 (by decide) (by omega) (by decide) l_RX9_1 w_oi w_oc rfl ?_
  refine R_aload_n (pc' := 5) dX9_init_4 rfl (by decide) rfl ?_
  refine R_iconst (pc' := 6) dX9_init_5 rfl ?_
  refine R_putfi (j := 0) (len := 0) (pc' := 9) dX9_init_6 l_RX9_7 (isC_mk ⟨by decide, by decide⟩ (by decide +kernel)) fd9_0.1 fd9_0.2.1 fd9_0.2.2.2.1 fd9_0.2.2.2.2 rfl ?_
  refine W_put (k := 154) (k1 := 155) h (by decide +kernel) (by decide +kernel) rfl (fun c1 h1 => ?_)
  refine R_aload_n (pc' := 10) dX9_init_9 rfl (by decide) rfl ?_
  refine R_iconst (pc' := 11) dX9_init_10 rfl ?_
  refine R_putfi (j := 1) (len := 0) (pc' := 14) dX9_init_11 l_RX9_13 (isC_mk ⟨by decide, by decide⟩ (by decide +kernel)) fd9_1.1 fd9_1.2.1 fd9_1.2.2.2.1 fd9_1.2.2.2.2 rfl ?_
  refine W_put (k := 155) (k1 := 156) h1 (by decide +kernel) (by decide +kernel) rfl (fun c2 h2 => ?_)
  refine R_aload_n (pc' := 15) dX9_init_14 rfl (by decide) rfl ?_
  refine R_iconst (pc' := 16) dX9_init_15 rfl ?_
  refine R_putfi (j := 2) (len := 0) (pc' := 19) dX9_init_16 l_RX9_16 (isC_mk ⟨by decide, by decide⟩ (by decide +kernel)) fd9_2.1 fd9_2.2.1 fd9_2.2.2.2.1 fd9_2.2.2.2.2 rfl ?_
  refine W_put (k := 156) (k1 := 157) h2 (by decide +kernel) (by decide +kernel) rfl (fun c3 h3 => ?_)
  refine R_aload_n (pc' := 20) dX9_init_19 rfl (by decide) rfl ?_
  refine R_iconst (pc' := 21) dX9_init_20 rfl ?_
  refine R_putfi (j := 3) (len := 0) (pc' := 24) dX9_init_21 l_RX9_19 (isC_mk ⟨by decide, by decide⟩ (by decide +kernel)) fd9_3.1 fd9_3.2.1 fd9_3.2.2.2.1 fd9_3.2.2.2.2 rfl ?_
  refine W_put (k := 157) (k1 := 158) h3 (by decide +kernel) (by decide +kernel) rfl (fun c4 h4 => ?_)
  refine R_aload_n (pc' := 25) dX9_init_24 rfl (by decide) rfl ?_
  refine R_iconst (pc' := 26) dX9_init_25 rfl ?_
  refine R_putfi (j := 4) (len := 0) (pc' := 29) dX9_init_26 l_RX9_22 (isC_mk ⟨by decide, by decide⟩ (by decide +kernel)) fd9_4.1 fd9_4.2.1 fd9_4.2.2.2.1 fd9_4.2.2.2.2 rfl ?_
  refine W_put (k := 158) (k1 := 159) h4 (by decide +kernel) (by decide +kernel) rfl (fun c5 h5 => ?_)
  refine R_aload_n (pc' := 30) dX9_init_29 rfl (by decide) rfl ?_
  refine R_bipush (pc' := 32) dX9_init_30 (by decide) rfl ?_
  refine R_newa_int (len := 6) (pc' := 34) dX9_init_32 w_ac_int (by decide) (Nat.le_of_ble_eq_true rfl) (Nat.le_of_ble_eq_true rfl) (okR_mk (n := 109) (by decide)) (okR_mk (n := 109) (by decide)) rfl ?_
  refine W_new (n := 109) (k := 159) (xi := 109) (n1 := 110) (kc1 := 1) (ks1 := 6) h5 (by decide +kernel) (by decide +kernel) rfl rfl rfl rfl (fun c6 h6 => ?_)
  refine R_putfFr (j := 5) (len := 0) (pc' := 37) dX9_init_34 l_RX9_25 (isC_mk ⟨by decide, by decide⟩ (by decide +kernel)) fd9_5.1 fd9_5.2.1 fd9_5.2.2.2 rfl rfl fd9_5.2.2.1 (show (109 : Int) < ((110 : Nat) : Int) by decide) rfl ?_
  refine W_put (k := 159) (k1 := 160) h6 (by decide +kernel) (by decide +kernel) rfl (fun c7 h7 => ?_)
  refine R_aload_n (pc' := 38) dX9_init_37 rfl (by decide) rfl ?_
  refine R_bipush (pc' := 40) dX9_init_38 (by decide) rfl ?_
  refine R_newa_int (len := 6) (pc' := 42) dX9_init_40 w_ac_int (by decide) (Nat.le_of_ble_eq_true rfl) (Nat.le_of_ble_eq_true rfl) (okR_mk (n := 110) (by decide)) (okR_mk (n := 110) (by decide)) rfl ?_
  refine W_new (n := 110) (k := 160) (xi := 110) (n1 := 111) (kc1 := 2) (ks1 := 12) h7 (by decide +kernel) (by decide +kernel) rfl rfl rfl rfl (fun c8 h8 => ?_)
  refine R_putfFr (j := 6) (len := 0) (pc' := 45) dX9_init_42 l_RX9_29 (isC_mk ⟨by decide, by decide⟩ (by decide +kernel)) fd9_6.1 fd9_6.2.1 fd9_6.2.2.2 rfl rfl fd9_6.2.2.1 (show (110 : Int) < ((111 : Nat) : Int) by decide) rfl ?_
  refine W_put (k := 160) (k1 := 161) h8 (by decide +kernel) (by decide +kernel) rfl (fun c9 h9 => ?_)
  refine R_aload_n (pc' := 46) dX9_init_45 rfl (by decide) rfl ?_
  refine R_bipush (pc' := 48) dX9_init_46 (by decide) rfl ?_
  refine R_newa_int (len := 6) (pc' := 50) dX9_init_48 w_ac_int (by decide) (Nat.le_of_ble_eq_true rfl) (Nat.le_of_ble_eq_true rfl) (okR_mk (n := 111) (by decide)) (okR_mk (n := 111) (by decide)) rfl ?_
  refine W_new (n := 111) (k := 161) (xi := 111) (n1 := 112) (kc1 := 3) (ks1 := 18) h9 (by decide +kernel) (by decide +kernel) rfl rfl rfl rfl (fun c10 h10 => ?_)
  refine R_putfFr (j := 7) (len := 0) (pc' := 53) dX9_init_50 l_RX9_32 (isC_mk ⟨by decide, by decide⟩ (by decide +kernel)) fd9_7.1 fd9_7.2.1 fd9_7.2.2.2 rfl rfl fd9_7.2.2.1 (show (111 : Int) < ((112 : Nat) : Int) by decide) rfl ?_
  refine W_put (k := 161) (k1 := 162) h10 (by decide +kernel) (by decide +kernel) rfl (fun c11 h11 => ?_)
  refine R_aload_n (pc' := 54) dX9_init_53 rfl (by decide) rfl ?_
  refine R_bipush (pc' := 56) dX9_init_54 (by decide) rfl ?_
  refine R_newa_int (len := 6) (pc' := 58) dX9_init_56 w_ac_int (by decide) (Nat.le_of_ble_eq_true rfl) (Nat.le_of_ble_eq_true rfl) (okR_mk (n := 112) (by decide)) (okR_mk (n := 112) (by decide)) rfl ?_
  refine W_new (n := 112) (k := 162) (xi := 112) (n1 := 113) (kc1 := 4) (ks1 := 24) h11 (by decide +kernel) (by decide +kernel) rfl rfl rfl rfl (fun c12 h12 => ?_)
  refine R_putfFr (j := 8) (len := 0) (pc' := 61) dX9_init_58 l_RX9_35 (isC_mk ⟨by decide, by decide⟩ (by decide +kernel)) fd9_8.1 fd9_8.2.1 fd9_8.2.2.2 rfl rfl fd9_8.2.2.1 (show (112 : Int) < ((113 : Nat) : Int) by decide) rfl ?_
  refine W_put (k := 162) (k1 := 163) h12 (by decide +kernel) (by decide +kernel) rfl (fun c13 h13 => ?_)
  refine R_aload_n (pc' := 62) dX9_init_61 rfl (by decide) rfl ?_
  refine R_bipush (pc' := 64) dX9_init_62 (by decide) rfl ?_
  refine R_newa_int (len := 24) (pc' := 66) dX9_init_64 w_ac_int (by decide) (Nat.le_of_ble_eq_true rfl) (Nat.le_of_ble_eq_true rfl) (okR_mk (n := 113) (by decide)) (okR_mk (n := 113) (by decide)) rfl ?_
  refine W_new (n := 113) (k := 163) (xi := 113) (n1 := 114) (kc1 := 5) (ks1 := 48) h13 (by decide +kernel) (by decide +kernel) rfl rfl rfl rfl (fun c14 h14 => ?_)
  refine R_putfFr (j := 9) (len := 0) (pc' := 69) dX9_init_66 l_RX9_38 (isC_mk ⟨by decide, by decide⟩ (by decide +kernel)) fd9_9.1 fd9_9.2.1 fd9_9.2.2.2 rfl rfl fd9_9.2.2.1 (show (113 : Int) < ((114 : Nat) : Int) by decide) rfl ?_
  refine W_put (k := 163) (k1 := 164) h14 (by decide +kernel) (by decide +kernel) rfl (fun c15 h15 => ?_)
  refine R_aload_n (pc' := 70) dX9_init_69 rfl (by decide) rfl ?_
  refine R_iconst (pc' := 71) dX9_init_70 rfl ?_
  refine R_putfi (j := 10) (len := 0) (pc' := 74) dX9_init_71 l_RX9_41 (isC_mk ⟨by decide, by decide⟩ (by decide +kernel)) fd9_10.1 fd9_10.2.1 fd9_10.2.2.2.1 fd9_10.2.2.2.2 rfl ?_
  refine W_put (k := 164) (k1 := 165) h15 (by decide +kernel) (by decide +kernel) rfl (fun c16 h16 => ?_)
  refine R_aload_n (pc' := 75) dX9_init_74 rfl (by decide) rfl ?_
  refine R_iconst (pc' := 76) dX9_init_75 rfl ?_
  refine R_putfi (j := 11) (len := 0) (pc' := 79) dX9_init_76 l_RX9_44 (isC_mk ⟨by decide, by decide⟩ (by decide +kernel)) fd9_11.1 fd9_11.2.1 fd9_11.2.2.2.1 fd9_11.2.2.2.2 rfl ?_
  refine W_put (k := 165) (k1 := 166) h16 (by decide +kernel) (by decide +kernel) rfl (fun c17 h17 => ?_)
  refine R_aload_n (pc' := 80) dX9_init_79 rfl (by decide) rfl ?_
  refine R_iconst (pc' := 81) dX9_init_80 rfl ?_
  refine R_putfi (j := 12) (len := 0) (pc' := 84) dX9_init_81 l_RX9_47 (isC_mk ⟨by decide, by decide⟩ (by decide +kernel)) fd9_12.1 fd9_12.2.1 fd9_12.2.2.2.1 fd9_12.2.2.2.2 rfl ?_
  refine W_put (k := 166) (k1 := 167) h17 (by decide +kernel) (by decide +kernel) rfl (fun c18 h18 => ?_)
  refine R_aload_n (pc' := 85) dX9_init_84 rfl (by decide) rfl ?_
  refine R_iconst (pc' := 86) dX9_init_85 rfl ?_
  refine R_putfi (j := 13) (len := 0) (pc' := 89) dX9_init_86 l_RX9_50 (isC_mk ⟨by decide, by decide⟩ (by decide +kernel)) fd9_13.1 fd9_13.2.1 fd9_13.2.2.2.1 fd9_13.2.2.2.2 rfl ?_
  refine W_put (k := 167) (k1 := 168) h18 (by decide +kernel) (by decide +kernel) rfl (fun c19 h19 => ?_)
  refine R_aload_n (pc' := 90) dX9_init_89 rfl (by decide) rfl ?_
  refine R_iconst (pc' := 91) dX9_init_90 rfl ?_
  refine R_putfi (j := 14) (len := 0) (pc' := 94) dX9_init_91 l_RX9_53 (isC_mk ⟨by decide, by decide⟩ (by decide +kernel)) fd9_14.1 fd9_14.2.1 fd9_14.2.2.2.1 fd9_14.2.2.2.2 rfl ?_
  refine W_put (k := 168) (k1 := 169) h19 (by decide +kernel) (by decide +kernel) rfl (fun c20 h20 => ?_)
  refine R_aload_n (pc' := 95) dX9_init_94 rfl (by decide) rfl ?_
  refine R_bipush (pc' := 97) dX9_init_95 (by decide) rfl ?_
  refine R_newa_int (len := 100) (pc' := 99) dX9_init_97 w_ac_int (by decide) (Nat.le_of_ble_eq_true rfl) (Nat.le_of_ble_eq_true rfl) (okR_mk (n := 114) (by decide)) (okR_mk (n := 114) (by decide)) rfl ?_
  refine W_new (n := 114) (k := 169) (xi := 114) (n1 := 115) (kc1 := 6) (ks1 := 148) h20 (by decide +kernel) (by decide +kernel) rfl rfl rfl rfl (fun c21 h21 => ?_)
  refine R_putfFr (j := 15) (len := 0) (pc' := 102) dX9_init_99 l_RX9_56 (isC_mk ⟨by decide, by decide⟩ (by decide +kernel)) fd9_15.1 fd9_15.2.1 fd9_15.2.2.2 rfl rfl fd9_15.2.2.1 (show (114 : Int) < ((115 : Nat) : Int) by decide) rfl ?_
  refine W_put (k := 169) (k1 := 170) h21 (by decide +kernel) (by decide +kernel) rfl (fun c22 h22 => ?_)
  refine R_aload_n (pc' := 103) dX9_init_102 rfl (by decide) rfl ?_
  refine R_bipush (pc' := 105) dX9_init_103 (by decide) rfl ?_
  refine R_newa_int (len := 6) (pc' := 107) dX9_init_105 w_ac_int (by decide) (Nat.le_of_ble_eq_true rfl) (Nat.le_of_ble_eq_true rfl) (okR_mk (n := 115) (by decide)) (okR_mk (n := 115) (by decide)) rfl ?_
  refine W_new (n := 115) (k := 170) (xi := 115) (n1 := 116) (kc1 := 7) (ks1 := 154) h22 (by decide +kernel) (by decide +kernel) rfl rfl rfl rfl (fun c23 h23 => ?_)
  refine R_putfFr (j := 16) (len := 0) (pc' := 110) dX9_init_107 l_RX9_59 (isC_mk ⟨by decide, by decide⟩ (by decide +kernel)) fd9_16.1 fd9_16.2.1 fd9_16.2.2.2 rfl rfl fd9_16.2.2.1 (show (115 : Int) < ((116 : Nat) : Int) by decide) rfl ?_
  refine W_put (k := 170) (k1 := 171) h23 (by decide +kernel) (by decide +kernel) rfl (fun c24 h24 => ?_)
  refine R_aload_n (pc' := 111) dX9_init_110 rfl (by decide) rfl ?_
  refine R_bipush (pc' := 113) dX9_init_111 (by decide) rfl ?_
  refine R_newa_int (len := 60) (pc' := 115) dX9_init_113 w_ac_int (by decide) (Nat.le_of_ble_eq_true rfl) (Nat.le_of_ble_eq_true rfl) (okR_mk (n := 116) (by decide)) (okR_mk (n := 116) (by decide)) rfl ?_
  refine W_new (n := 116) (k := 171) (xi := 116) (n1 := 117) (kc1 := 8) (ks1 := 214) h24 (by decide +kernel) (by decide +kernel) rfl rfl rfl rfl (fun c25 h25 => ?_)
  refine R_putfFr (j := 17) (len := 0) (pc' := 118) dX9_init_115 l_RX9_62 (isC_mk ⟨by decide, by decide⟩ (by decide +kernel)) fd9_17.1 fd9_17.2.1 fd9_17.2.2.2 rfl rfl fd9_17.2.2.1 (show (116 : Int) < ((117 : Nat) : Int) by decide) rfl ?_
  refine W_put (k := 171) (k1 := 172) h25 (by decide +kernel) (by decide +kernel) rfl (fun c26 h26 => ?_)
  refine R_aload_n (pc' := 119) dX9_init_118 rfl (by decide) rfl ?_
  refine R_bipush (pc' := 121) dX9_init_119 (by decide) rfl ?_
  refine R_newa_int (len := 60) (pc' := 123) dX9_init_121 w_ac_int (by decide) (Nat.le_of_ble_eq_true rfl) (Nat.le_of_ble_eq_true rfl) (okR_mk (n := 117) (by decide)) (okR_mk (n := 117) (by decide)) rfl ?_
  refine W_new (n := 117) (k := 172) (xi := 117) (n1 := 118) (kc1 := 9) (ks1 := 274) h26 (by decide +kernel) (by decide +kernel) rfl rfl rfl rfl (fun c27 h27 => ?_)
  refine R_putfFr (j := 18) (len := 0) (pc' := 126) dX9_init_123 l_RX9_65 (isC_mk ⟨by decide, by decide⟩ (by decide +kernel)) fd9_18.1 fd9_18.2.1 fd9_18.2.2.2 rfl rfl fd9_18.2.2.1 (show (117 : Int) < ((118 : Nat) : Int) by decide) rfl ?_
  refine W_put (k := 172) (k1 := 173) h27 (by decide +kernel) (by decide +kernel) rfl (fun c28 h28 => ?_)
  refine R_aload_n (pc' := 127) dX9_init_126 rfl (by decide) rfl ?_
  refine R_bipush (pc' := 129) dX9_init_127 (by decide) rfl ?_
  refine R_newa_int (len := 60) (pc' := 131) dX9_init_129 w_ac_int (by decide) (Nat.le_of_ble_eq_true rfl) (Nat.le_of_ble_eq_true rfl) (okR_mk (n := 118) (by decide)) (okR_mk (n := 118) (by decide)) rfl ?_
  refine W_new (n := 118) (k := 173) (xi := 118) (n1 := 119) (kc1 := 10) (ks1 := 334) h28 (by decide +kernel) (by decide +kernel) rfl rfl rfl rfl (fun c29 h29 => ?_)
  refine R_putfFr (j := 19) (len := 0) (pc' := 134) dX9_init_131 l_RX9_68 (isC_mk ⟨by decide, by decide⟩ (by decide +kernel)) fd9_19.1 fd9_19.2.1 fd9_19.2.2.2 rfl rfl fd9_19.2.2.1 (show (118 : Int) < ((119 : Nat) : Int) by decide) rfl ?_
  refine W_put (k := 173) (k1 := 174) h29 (by decide +kernel) (by decide +kernel) rfl (fun c30 h30 => ?_)
  refine R_aload_n (pc' := 135) dX9_init_134 rfl (by decide) rfl ?_
  refine R_bipush (pc' := 137) dX9_init_135 (by decide) rfl ?_
  refine R_newa_int (len := 60) (pc' := 139) dX9_init_137 w_ac_int (by decide) (Nat.le_of_ble_eq_true rfl) (Nat.le_of_ble_eq_true rfl) (okR_mk (n := 119) (by decide)) (okR_mk (n := 119) (by decide)) rfl ?_
  refine W_new (n := 119) (k := 174) (xi := 119) (n1 := 120) (kc1 := 11) (ks1 := 394) h30 (by decide +kernel) (by decide +kernel) rfl rfl rfl rfl (fun c31 h31 => ?_)
  refine R_putfFr (j := 20) (len := 0) (pc' := 142) dX9_init_139 l_RX9_71 (isC_mk ⟨by decide, by decide⟩ (by decide +kernel)) fd9_20.1 fd9_20.2.1 fd9_20.2.2.2 rfl rfl fd9_20.2.2.1 (show (119 : Int) < ((120 : Nat) : Int) by decide) rfl ?_
  refine W_put (k := 174) (k1 := 175) h31 (by decide +kernel) (by decide +kernel) rfl (fun c32 h32 => ?_)
  refine R_aload_n (pc' := 143) dX9_init_142 rfl (by decide) rfl ?_
  refine R_sipush (pc' := 146) dX9_init_143 (by decide) rfl ?_
  refine R_newa_int (len := 600) (pc' := 148) dX9_init_146 w_ac_int (by decide) (Nat.le_of_ble_eq_true rfl) (Nat.le_of_ble_eq_true rfl) (okR_mk (n := 120) (by decide)) (okR_mk (n := 120) (by decide)) rfl ?_
  refine W_new (n := 120) (k := 175) (xi := 120) (n1 := 121) (kc1 := 12) (ks1 := 994) h32 (by decide +kernel) (by decide +kernel) rfl rfl rfl rfl (fun c33 h33 => ?_)
  refine R_putfFr (j := 21) (len := 0) (pc' := 151) dX9_init_148 l_RX9_74 (isC_mk ⟨by decide, by decide⟩ (by decide +kernel)) fd9_21.1 fd9_21.2.1 fd9_21.2.2.2 rfl rfl fd9_21.2.2.1 (show (120 : Int) < ((121 : Nat) : Int) by decide) rfl ?_
  refine W_put (k := 175) (k1 := 176) h33 (by decide +kernel) (by decide +kernel) rfl (fun c34 h34 => ?_)
  refine R_aload_n (pc' := 152) dX9_init_151 rfl (by decide) rfl ?_
  refine R_bipush (pc' := 154) dX9_init_152 (by decide) rfl ?_
  refine R_newa_int (len := 101) (pc' := 156) dX9_init_154 w_ac_int (by decide) (Nat.le_of_ble_eq_true rfl) (Nat.le_of_ble_eq_true rfl) (okR_mk (n := 121) (by decide)) (okR_mk (n := 121) (by decide)) rfl ?_
  refine W_new (n := 121) (k := 176) (xi := 121) (n1 := 122) (kc1 := 13) (ks1 := 1095) h34 (by decide +kernel) (by decide +kernel) rfl rfl rfl rfl (fun c35 h35 => ?_)
  refine R_putfFr (j := 22) (len := 0) (pc' := 159) dX9_init_156 l_RX9_77 (isC_mk ⟨by decide, by decide⟩ (by decide +kernel)) fd9_22.1 fd9_22.2.1 fd9_22.2.2.2 rfl rfl fd9_22.2.2.1 (show (121 : Int) < ((122 : Nat) : Int) by decide) rfl ?_
  refine W_put (k := 176) (k1 := 177) h35 (by decide +kernel) (by decide +kernel) rfl (fun c36 h36 => ?_)
  refine R_aload_n (pc' := 160) dX9_init_159 rfl (by decide) rfl ?_
  refine R_iconst (pc' := 161) dX9_init_160 rfl ?_
  refine R_putfi (j := 23) (len := 0) (pc' := 164) dX9_init_161 l_RX9_80 (isC_mk ⟨by decide, by decide⟩ (by decide +kernel)) fd9_23.1 fd9_23.2.1 fd9_23.2.2.2.1 fd9_23.2.2.2.2 rfl ?_
  refine W_put (k := 177) (k1 := 178) h36 (by decide +kernel) (by decide +kernel) rfl (fun c37 h37 => ?_)
  refine R_aload_n (pc' := 165) dX9_init_164 rfl (by decide) rfl ?_
  refine R_iconst (pc' := 166) dX9_init_165 rfl ?_
  refine R_putfi (j := 24) (len := 0) (pc' := 169) dX9_init_166 l_RX9_83 (isC_mk ⟨by decide, by decide⟩ (by decide +kernel)) fd9_24.1 fd9_24.2.1 fd9_24.2.2.2.1 fd9_24.2.2.2.2 rfl ?_
  refine W_put (k := 178) (k1 := 179) h37 (by decide +kernel) (by decide +kernel) rfl (fun c38 h38 => ?_)
  refine R_aload_n (pc' := 170) dX9_init_169 rfl (by decide) rfl ?_
  refine R_iconst (pc' := 171) dX9_init_170 rfl ?_
  refine R_putfi (j := 25) (len := 0) (pc' := 174) dX9_init_171 l_RX9_86 (isC_mk ⟨by decide, by decide⟩ (by decide +kernel)) fd9_25.1 fd9_25.2.1 fd9_25.2.2.2.1 fd9_25.2.2.2.2 rfl ?_
  refine W_put (k := 179) (k1 := 180) h38 (by decide +kernel) (by decide +kernel) rfl (fun c39 h39 => ?_)
  refine R_aload_n (pc' := 175) dX9_init_174 rfl (by decide) rfl ?_
  refine R_bipush (pc' := 177) dX9_init_175 (by decide) rfl ?_
  refine R_newa_int (len := 20) (pc' := 179) dX9_init_177 w_ac_int (by decide) (Nat.le_of_ble_eq_true rfl) (Nat.le_of_ble_eq_true rfl) (okR_mk (n := 122) (by decide)) (okR_mk (n := 122) (by decide)) rfl ?_
  refine W_new (n := 122) (k := 180) (xi := 122) (n1 := 123) (kc1 := 14) (ks1 := 1115) h39 (by decide +kernel) (by decide +kernel) rfl rfl rfl rfl (fun c40 h40 => ?_)
  refine R_dup (pc' := 180) dX9_init_179 (by simp) rfl ?_
  refine R_iconst (pc' := 181) dX9_init_180 rfl ?_
  refine R_bipush (pc' := 183) dX9_init_181 (by decide) rfl ?_
  refine R_iastore (pc' := 184) dX9_init_183 (len := 20) (isC_mk ⟨by decide, by decide⟩ (by decide +kernel)) (by decide) (by decide) (by decide) rfl ?_
  refine W_put (k := 180) (k1 := 181) h40 (by decide +kernel) (by decide +kernel) rfl (fun c41 h41 => ?_)
  refine R_dup (pc' := 185) dX9_init_184 (by simp) rfl ?_
  refine R_iconst (pc' := 186) dX9_init_185 rfl ?_
  refine R_bipush (pc' := 188) dX9_init_186 (by decide) rfl ?_
  refine R_iastore (pc' := 189) dX9_init_188 (len := 20) (isC_mk ⟨by decide, by decide⟩ (by decide +kernel)) (by decide) (by decide) (by decide) rfl ?_
  refine W_put (k := 181) (k1 := 182) h41 (by decide +kernel) (by decide +kernel) rfl (fun c42 h42 => ?_)
  refine R_dup (pc' := 190) dX9_init_189 (by simp) rfl ?_
  refine R_iconst (pc' := 191) dX9_init_190 rfl ?_
  refine R_bipush (pc' := 193) dX9_init_191 (by decide) rfl ?_
  refine R_iastore (pc' := 194) dX9_init_193 (len := 20) (isC_mk ⟨by decide, by decide⟩ (by decide +kernel)) (by decide) (by decide) (by decide) rfl ?_
  refine W_put (k := 182) (k1 := 183) h42 (by decide +kernel) (by decide +kernel) rfl (fun c43 h43 => ?_)
  refine R_dup (pc' := 195) dX9_init_194 (by simp) rfl ?_
  refine R_iconst (pc' := 196) dX9_init_195 rfl ?_
  refine R_bipush (pc' := 198) dX9_init_196 (by decide) rfl ?_
  refine R_iastore (pc' := 199) dX9_init_198 (len := 20) (isC_mk ⟨by decide, by decide⟩ (by decide +kernel)) (by decide) (by decide) (by decide) rfl ?_
  refine W_put (k := 183) (k1 := 184) h43 (by decide +kernel) (by decide +kernel) rfl (fun c44 h44 => ?_)
  refine R_dup (pc' := 200) dX9_init_199 (by simp) rfl ?_
  refine R_iconst (pc' := 201) dX9_init_200 rfl ?_
  refine R_bipush (pc' := 203) dX9_init_201 (by decide) rfl ?_
  refine R_iastore (pc' := 204) dX9_init_203 (len := 20) (isC_mk ⟨by decide, by decide⟩ (by decide +kernel)) (by decide) (by decide) (by decide) rfl ?_
  refine W_put (k := 184) (k1 := 185) h44 (by decide +kernel) (by decide +kernel) rfl (fun c45 h45 => ?_)
  refine R_dup (pc' := 205) dX9_init_204 (by simp) rfl ?_
  refine R_iconst (pc' := 206) dX9_init_205 rfl ?_
  refine R_bipush (pc' := 208) dX9_init_206 (by decide) rfl ?_
  refine R_iastore (pc' := 209) dX9_init_208 (len := 20) (isC_mk ⟨by decide, by decide⟩ (by decide +kernel)) (by decide) (by decide) (by decide) rfl ?_
  refine W_put (k := 185) (k1 := 186) h45 (by decide +kernel) (by decide +kernel) rfl (fun c46 h46 => ?_)
  refine R_dup (pc' := 210) dX9_init_209 (by simp) rfl ?_
  refine R_bipush (pc' := 212) dX9_init_210 (by decide) rfl ?_
  refine R_bipush (pc' := 214) dX9_init_212 (by decide) rfl ?_
  refine R_iastore (pc' := 215) dX9_init_214 (len := 20) (isC_mk ⟨by decide, by decide⟩ (by decide +kernel)) (by decide) (by decide) (by decide) rfl ?_
  refine W_put (k := 186) (k1 := 187) h46 (by decide +kernel) (by decide +kernel) rfl (fun c47 h47 => ?_)
  refine R_dup (pc' := 216) dX9_init_215 (by simp) rfl ?_
  refine R_bipush (pc' := 218) dX9_init_216 (by decide) rfl ?_
  refine R_bipush (pc' := 220) dX9_init_218 (by decide) rfl ?_
  refine R_iastore (pc' := 221) dX9_init_220 (len := 20) (isC_mk ⟨by decide, by decide⟩ (by decide +kernel)) (by decide) (by decide) (by decide) rfl ?_
  refine W_put (k := 187) (k1 := 188) h47 (by decide +kernel) (by decide +kernel) rfl (fun c48 h48 => ?_)
  refine R_dup (pc' := 222) dX9_init_221 (by simp) rfl ?_
  refine R_bipush (pc' := 224) dX9_init_222 (by decide) rfl ?_
  refine R_bipush (pc' := 226) dX9_init_224 (by decide) rfl ?_
  refine R_iastore (pc' := 227) dX9_init_226 (len := 20) (isC_mk ⟨by decide, by decide⟩ (by decide +kernel)) (by decide) (by decide) (by decide) rfl ?_
  refine W_put (k := 188) (k1 := 189) h48 (by decide +kernel) (by decide +kernel) rfl (fun c49 h49 => ?_)
  refine R_dup (pc' := 228) dX9_init_227 (by simp) rfl ?_
  refine R_bipush (pc' := 230) dX9_init_228 (by decide) rfl ?_
  refine R_bipush (pc' := 232) dX9_init_230 (by decide) rfl ?_
  refine R_iastore (pc' := 233) dX9_init_232 (len := 20) (isC_mk ⟨by decide, by decide⟩ (by decide +kernel)) (by decide) (by decide) (by decide) rfl ?_
  refine W_put (k := 189) (k1 := 190) h49 (by decide +kernel) (by decide +kernel) rfl (fun c50 h50 => ?_)
  refine R_dup (pc' := 234) dX9_init_233 (by simp) rfl ?_
  refine R_bipush (pc' := 236) dX9_init_234 (by decide) rfl ?_
  refine R_bipush (pc' := 238) dX9_init_236 (by decide) rfl ?_
  refine R_iastore (pc' := 239) dX9_init_238 (len := 20) (isC_mk ⟨by decide, by decide⟩ (by decide +kernel)) (by decide) (by decide) (by decide) rfl ?_
  refine W_put (k := 190) (k1 := 191) h50 (by decide +kernel) (by decide +kernel) rfl (fun c51 h51 => ?_)
  refine R_dup (pc' := 240) dX9_init_239 (by simp) rfl ?_
  refine R_bipush (pc' := 242) dX9_init_240 (by decide) rfl ?_
  refine R_bipush (pc' := 244) dX9_init_242 (by decide) rfl ?_
  refine R_iastore (pc' := 245) dX9_init_244 (len := 20) (isC_mk ⟨by decide, by decide⟩ (by decide +kernel)) (by decide) (by decide) (by decide) rfl ?_
  refine W_put (k := 191) (k1 := 192) h51 (by decide +kernel) (by decide +kernel) rfl (fun c52 h52 => ?_)
  refine R_dup (pc' := 246) dX9_init_245 (by simp) rfl ?_
  refine R_bipush (pc' := 248) dX9_init_246 (by decide) rfl ?_
  refine R_bipush (pc' := 250) dX9_init_248 (by decide) rfl ?_
  refine R_iastore (pc' := 251) dX9_init_250 (len := 20) (isC_mk ⟨by decide, by decide⟩ (by decide +kernel)) (by decide) (by decide) (by decide) rfl ?_
  refine W_put (k := 192) (k1 := 193) h52 (by decide +kernel) (by decide +kernel) rfl (fun c53 h53 => ?_)
  refine R_dup (pc' := 252) dX9_init_251 (by simp) rfl ?_
  refine R_bipush (pc' := 254) dX9_init_252 (by decide) rfl ?_
  refine R_bipush (pc' := 256) dX9_init_254 (by decide) rfl ?_
  refine R_iastore (pc' := 257) dX9_init_256 (len := 20) (isC_mk ⟨by decide, by decide⟩ (by decide +kernel)) (by decide) (by decide) (by decide) rfl ?_
  refine W_put (k := 193) (k1 := 194) h53 (by decide +kernel) (by decide +kernel) rfl (fun c54 h54 => ?_)
  refine R_dup (pc' := 258) dX9_init_257 (by simp) rfl ?_
  refine R_bipush (pc' := 260) dX9_init_258 (by decide) rfl ?_
  refine R_bipush (pc' := 262) dX9_init_260 (by decide) rfl ?_
  refine R_iastore (pc' := 263) dX9_init_262 (len := 20) (isC_mk ⟨by decide, by decide⟩ (by decide +kernel)) (by decide) (by decide) (by decide) rfl ?_
  refine W_put (k := 194) (k1 := 195) h54 (by decide +kernel) (by decide +kernel) rfl (fun c55 h55 => ?_)
  refine R_dup (pc' := 264) dX9_init_263 (by simp) rfl ?_
  refine R_bipush (pc' := 266) dX9_init_264 (by decide) rfl ?_
  refine R_bipush (pc' := 268) dX9_init_266 (by decide) rfl ?_
  refine R_iastore (pc' := 269) dX9_init_268 (len := 20) (isC_mk ⟨by decide, by decide⟩ (by decide +kernel)) (by decide) (by decide) (by decide) rfl ?_
  refine W_put (k := 195) (k1 := 196) h55 (by decide +kernel) (by decide +kernel) rfl (fun c56 h56 => ?_)
  refine R_dup (pc' := 270) dX9_init_269 (by simp) rfl ?_
  refine R_bipush (pc' := 272) dX9_init_270 (by decide) rfl ?_
  refine R_bipush (pc' := 274) dX9_init_272 (by decide) rfl ?_
  refine R_iastore (pc' := 275) dX9_init_274 (len := 20) (isC_mk ⟨by decide, by decide⟩ (by decide +kernel)) (by decide) (by decide) (by decide) rfl ?_
  refine W_put (k := 196) (k1 := 197) h56 (by decide +kernel) (by decide +kernel) rfl (fun c57 h57 => ?_)
  refine R_dup (pc' := 276) dX9_init_275 (by simp) rfl ?_
  refine R_bipush (pc' := 278) dX9_init_276 (by decide) rfl ?_
  refine R_bipush (pc' := 280) dX9_init_278 (by decide) rfl ?_
  refine R_iastore (pc' := 281) dX9_init_280 (len := 20) (isC_mk ⟨by decide, by decide⟩ (by decide +kernel)) (by decide) (by decide) (by decide) rfl ?_
  refine W_put (k := 197) (k1 := 198) h57 (by decide +kernel) (by decide +kernel) rfl (fun c58 h58 => ?_)
  refine R_dup (pc' := 282) dX9_init_281 (by simp) rfl ?_
  refine R_bipush (pc' := 284) dX9_init_282 (by decide) rfl ?_
  refine R_bipush (pc' := 286) dX9_init_284 (by decide) rfl ?_
  refine R_iastore (pc' := 287) dX9_init_286 (len := 20) (isC_mk ⟨by decide, by decide⟩ (by decide +kernel)) (by decide) (by decide) (by decide) rfl ?_
  refine W_put (k := 198) (k1 := 199) h58 (by decide +kernel) (by decide +kernel) rfl (fun c59 h59 => ?_)
  refine R_dup (pc' := 288) dX9_init_287 (by simp) rfl ?_
  refine R_bipush (pc' := 290) dX9_init_288 (by decide) rfl ?_
  refine R_bipush (pc' := 292) dX9_init_290 (by decide) rfl ?_
  refine R_iastore (pc' := 293) dX9_init_292 (len := 20) (isC_mk ⟨by decide, by decide⟩ (by decide +kernel)) (by decide) (by decide) (by decide) rfl ?_
  refine W_put (k := 199) (k1 := 200) h59 (by decide +kernel) (by decide +kernel) rfl (fun c60 h60 => ?_)
  refine R_putfFr (j := 26) (len := 0) (pc' := 296) dX9_init_293 l_RX9_89 (isC_mk ⟨by decide, by decide⟩ (by decide +kernel)) fd9_26.1 fd9_26.2.1 fd9_26.2.2.2 rfl rfl fd9_26.2.2.1 (show (122 : Int) < ((123 : Nat) : Int) by decide) rfl ?_
  refine W_put (k := 200) (k1 := 201) h60 (by decide +kernel) (by decide +kernel) rfl (fun c61 h61 => ?_)
  refine R_aload_n (pc' := 297) dX9_init_296 rfl (by decide) rfl ?_
  refine R_bipush (pc' := 299) dX9_init_297 (by decide) rfl ?_
  refine R_newa_boolean (len := 100) (pc' := 301) dX9_init_299 w_ac_boolean (by decide) (Nat.le_of_ble_eq_true rfl) (Nat.le_of_ble_eq_true rfl) (okR_mk (n := 123) (by decide)) (okR_mk (n := 123) (by decide)) rfl ?_
  refine W_new (n := 123) (k := 201) (xi := 123) (n1 := 124) (kc1 := 15) (ks1 := 1215) h61 (by decide +kernel) (by decide +kernel) rfl rfl rfl rfl (fun c62 h62 => ?_)
  refine R_putfFr (j := 27) (len := 0) (pc' := 304) dX9_init_301 l_RX9_92 (isC_mk ⟨by decide, by decide⟩ (by decide +kernel)) fd9_27.1 fd9_27.2.1 fd9_27.2.2.2 rfl rfl fd9_27.2.2.1 (show (123 : Int) < ((124 : Nat) : Int) by decide) rfl ?_
  refine W_put (k := 201) (k1 := 202) h62 (by decide +kernel) (by decide +kernel) rfl (fun c63 h63 => ?_)
  refine R_aload_n (pc' := 305) dX9_init_304 rfl (by decide) rfl ?_
  refine R_bipush (pc' := 307) dX9_init_305 (by decide) rfl ?_
  refine R_newa_int (len := 36) (pc' := 309) dX9_init_307 w_ac_int (by decide) (Nat.le_of_ble_eq_true rfl) (Nat.le_of_ble_eq_true rfl) (okR_mk (n := 124) (by decide)) (okR_mk (n := 124) (by decide)) rfl ?_
  refine W_new (n := 124) (k := 202) (xi := 124) (n1 := 125) (kc1 := 16) (ks1 := 1251) h63 (by decide +kernel) (by decide +kernel) rfl rfl rfl rfl (fun c64 h64 => ?_)
  refine R_putfFr (j := 28) (len := 0) (pc' := 312) dX9_init_309 l_RX9_96 (isC_mk ⟨by decide, by decide⟩ (by decide +kernel)) fd9_28.1 fd9_28.2.1 fd9_28.2.2.2 rfl rfl fd9_28.2.2.1 (show (124 : Int) < ((125 : Nat) : Int) by decide) rfl ?_
  refine W_put (k := 202) (k1 := 203) h64 (by decide +kernel) (by decide +kernel) rfl (fun c65 h65 => ?_)
  refine R_aload_n (pc' := 313) dX9_init_312 rfl (by decide) rfl ?_
  refine R_sipush (pc' := 316) dX9_init_313 (by decide) rfl ?_
  refine R_putfi (j := 29) (len := 0) (pc' := 319) dX9_init_316 l_RX9_99 (isC_mk ⟨by decide, by decide⟩ (by decide +kernel)) fd9_29.1 fd9_29.2.1 fd9_29.2.2.2.1 fd9_29.2.2.2.2 rfl ?_
  refine W_put (k := 203) (k1 := 204) h65 (by decide +kernel) (by decide +kernel) rfl (fun c66 h66 => ?_)
  refine R_aload_n (pc' := 320) dX9_init_319 rfl (by decide) rfl ?_
  refine R_iconst (pc' := 321) dX9_init_320 rfl ?_
  refine R_putfi (j := 30) (len := 0) (pc' := 324) dX9_init_321 l_RX9_102 (isC_mk ⟨by decide, by decide⟩ (by decide +kernel)) fd9_30.1 fd9_30.2.1 fd9_30.2.2.2.1 fd9_30.2.2.2.2 rfl ?_
  refine W_put (k := 204) (k1 := 205) h66 (by decide +kernel) (by decide +kernel) rfl (fun c67 h67 => ?_)
  refine R_aload_n (pc' := 325) dX9_init_324 rfl (by decide) rfl ?_
  refine R_iconst (pc' := 326) dX9_init_325 rfl ?_
  refine R_putfi (j := 31) (len := 0) (pc' := 329) dX9_init_326 l_RX9_105 (isC_mk ⟨by decide, by decide⟩ (by decide +kernel)) fd9_31.1 fd9_31.2.1 fd9_31.2.2.2.1 fd9_31.2.2.2.2 rfl ?_
  refine W_put (k := 205) (k1 := 206) h67 (by decide +kernel) (by decide +kernel) rfl (fun c68 h68 => ?_)
  refine R_aload_n (pc' := 330) dX9_init_329 rfl (by decide) rfl ?_
  refine R_iconst (pc' := 331) dX9_init_330 rfl ?_
  refine R_putfi (j := 32) (len := 0) (pc' := 334) dX9_init_331 l_RX9_108 (isC_mk ⟨by decide, by decide⟩ (by decide +kernel)) fd9_32.1 fd9_32.2.1 fd9_32.2.2.2.1 fd9_32.2.2.2.2 rfl ?_
  refine W_put (k := 206) (k1 := 207) h68 (by decide +kernel) (by decide +kernel) rfl (fun c69 h69 => ?_)
  refine R_aload_n (pc' := 335) dX9_init_334 rfl (by decide) rfl ?_
  refine R_iconst (pc' := 336) dX9_init_335 rfl ?_
  refine R_putfi (j := 33) (len := 0) (pc' := 339) dX9_init_336 l_RX9_111 (isC_mk ⟨by decide, by decide⟩ (by decide +kernel)) fd9_33.1 fd9_33.2.1 fd9_33.2.2.2.1 fd9_33.2.2.2.2 rfl ?_
  refine W_put (k := 207) (k1 := 208) h69 (by decide +kernel) (by decide +kernel) rfl (fun c70 h70 => ?_)
  refine R_aload_n (pc' := 340) dX9_init_339 rfl (by decide) rfl ?_
  refine R_bipush (pc' := 342) dX9_init_340 (by decide) rfl ?_
  refine R_newa_int (len := 6) (pc' := 344) dX9_init_342 w_ac_int (by decide) (Nat.le_of_ble_eq_true rfl) (Nat.le_of_ble_eq_true rfl) (okR_mk (n := 125) (by decide)) (okR_mk (n := 125) (by decide)) rfl ?_
  refine W_new (n := 125) (k := 208) (xi := 125) (n1 := 126) (kc1 := 17) (ks1 := 1257) h70 (by decide +kernel) (by decide +kernel) rfl rfl rfl rfl (fun c71 h71 => ?_)
  refine R_putfFr (j := 34) (len := 0) (pc' := 347) dX9_init_344 l_RX9_114 (isC_mk ⟨by decide, by decide⟩ (by decide +kernel)) fd9_34.1 fd9_34.2.1 fd9_34.2.2.2 rfl rfl fd9_34.2.2.1 (show (125 : Int) < ((126 : Nat) : Int) by decide) rfl ?_
  refine W_put (k := 208) (k1 := 209) h71 (by decide +kernel) (by decide +kernel) rfl (fun c72 h72 => ?_)
  refine R_aload_n (pc' := 348) dX9_init_347 rfl (by decide) rfl ?_
  refine R_bipush (pc' := 350) dX9_init_348 (by decide) rfl ?_
  refine R_newa_int (len := 6) (pc' := 352) dX9_init_350 w_ac_int (by decide) (Nat.le_of_ble_eq_true rfl) (Nat.le_of_ble_eq_true rfl) (okR_mk (n := 126) (by decide)) (okR_mk (n := 126) (by decide)) rfl ?_
  refine W_new (n := 126) (k := 209) (xi := 126) (n1 := 127) (kc1 := 18) (ks1 := 1263) h72 (by decide +kernel) (by decide +kernel) rfl rfl rfl rfl (fun c73 h73 => ?_)
  refine R_putfFr (j := 35) (len := 0) (pc' := 355) dX9_init_352 l_RX9_117 (isC_mk ⟨by decide, by decide⟩ (by decide +kernel)) fd9_35.1 fd9_35.2.1 fd9_35.2.2.2 rfl rfl fd9_35.2.2.1 (show (126 : Int) < ((127 : Nat) : Int) by decide) rfl ?_
  refine W_put (k := 209) (k1 := 210) h73 (by decide +kernel) (by decide +kernel) rfl (fun c74 h74 => ?_)
  refine R_aload_n (pc' := 356) dX9_init_355 rfl (by decide) rfl ?_
  refine R_bipush (pc' := 358) dX9_init_356 (by decide) rfl ?_
  refine R_newa_int (len := 6) (pc' := 360) dX9_init_358 w_ac_int (by decide) (Nat.le_of_ble_eq_true rfl) (Nat.le_of_ble_eq_true rfl) (okR_mk (n := 127) (by decide)) (okR_mk (n := 127) (by decide)) rfl ?_
  refine W_new (n := 127) (k := 210) (xi := 127) (n1 := 128) (kc1 := 19) (ks1 := 1269) h74 (by decide +kernel) (by decide +kernel) rfl rfl rfl rfl (fun c75 h75 => ?_)
  refine R_putfFr (j := 36) (len := 0) (pc' := 363) dX9_init_360 l_RX9_120 (isC_mk ⟨by decide, by decide⟩ (by decide +kernel)) fd9_36.1 fd9_36.2.1 fd9_36.2.2.2 rfl rfl fd9_36.2.2.1 (show (127 : Int) < ((128 : Nat) : Int) by decide) rfl ?_
  refine W_put (k := 210) (k1 := 211) h75 (by decide +kernel) (by decide +kernel) rfl (fun c76 h76 => ?_)
  refine R_aload_n (pc' := 364) dX9_init_363 rfl (by decide) rfl ?_
  refine R_iconst (pc' := 365) dX9_init_364 rfl ?_
  refine R_putfi (j := 37) (len := 0) (pc' := 368) dX9_init_365 l_RX9_123 (isC_mk ⟨by decide, by decide⟩ (by decide +kernel)) fd9_37.1 fd9_37.2.1 fd9_37.2.2.2.1 fd9_37.2.2.2.2 rfl ?_
  refine W_put (k := 211) (k1 := 212) h76 (by decide +kernel) (by decide +kernel) rfl (fun c77 h77 => ?_)
  refine R_aload_n (pc' := 369) dX9_init_368 rfl (by decide) rfl ?_
  refine R_iconst (pc' := 370) dX9_init_369 rfl ?_
  refine R_putfi (j := 38) (len := 0) (pc' := 373) dX9_init_370 l_RX9_126 (isC_mk ⟨by decide, by decide⟩ (by decide +kernel)) fd9_38.1 fd9_38.2.1 fd9_38.2.2.2.1 fd9_38.2.2.2.2 rfl ?_
  refine W_put (k := 212) (k1 := 213) h77 (by decide +kernel) (by decide +kernel) rfl (fun c78 h78 => ?_)
  refine R_aload_n (pc' := 374) dX9_init_373 rfl (by decide) rfl ?_
  refine R_iconst (pc' := 375) dX9_init_374 rfl ?_
  refine R_putfi (j := 39) (len := 0) (pc' := 378) dX9_init_375 l_RX9_129 (isC_mk ⟨by decide, by decide⟩ (by decide +kernel)) fd9_39.1 fd9_39.2.1 fd9_39.2.2.2.1 fd9_39.2.2.2.2 rfl ?_
  refine W_put (k := 213) (k1 := 214) h78 (by decide +kernel) (by decide +kernel) rfl (fun c79 h79 => ?_)
  refine R_aload_n (pc' := 379) dX9_init_378 rfl (by decide) rfl ?_
  refine R_iconst (pc' := 380) dX9_init_379 rfl ?_
  refine R_newa_int (len := 5) (pc' := 382) dX9_init_380 w_ac_int (by decide) (Nat.le_of_ble_eq_true rfl) (Nat.le_of_ble_eq_true rfl) (okR_mk (n := 128) (by decide)) (okR_mk (n := 128) (by decide)) rfl ?_
  refine W_new (n := 128) (k := 214) (xi := 128) (n1 := 129) (kc1 := 20) (ks1 := 1274) h79 (by decide +kernel) (by decide +kernel) rfl rfl rfl rfl (fun c80 h80 => ?_)
  refine R_putfFr (j := 40) (len := 0) (pc' := 385) dX9_init_382 l_RX9_132 (isC_mk ⟨by decide, by decide⟩ (by decide +kernel)) fd9_40.1 fd9_40.2.1 fd9_40.2.2.2 rfl rfl fd9_40.2.2.1 (show (128 : Int) < ((129 : Nat) : Int) by decide) rfl ?_
  refine W_put (k := 214) (k1 := 215) h80 (by decide +kernel) (by decide +kernel) rfl (fun c81 h81 => ?_)
  refine R_aload_n (pc' := 386) dX9_init_385 rfl (by decide) rfl ?_
  refine R_iconst (pc' := 387) dX9_init_386 rfl ?_
  refine R_newa_int (len := 5) (pc' := 389) dX9_init_387 w_ac_int (by decide) (Nat.le_of_ble_eq_true rfl) (Nat.le_of_ble_eq_true rfl) (okR_mk (n := 129) (by decide)) (okR_mk (n := 129) (by decide)) rfl ?_
  refine W_new (n := 129) (k := 215) (xi := 129) (n1 := 130) (kc1 := 21) (ks1 := 1279) h81 (by decide +kernel) (by decide +kernel) rfl rfl rfl rfl (fun c82 h82 => ?_)
  refine R_putfFr (j := 41) (len := 0) (pc' := 392) dX9_init_389 l_RX9_135 (isC_mk ⟨by decide, by decide⟩ (by decide +kernel)) fd9_41.1 fd9_41.2.1 fd9_41.2.2.2 rfl rfl fd9_41.2.2.1 (show (129 : Int) < ((130 : Nat) : Int) by decide) rfl ?_
  refine W_put (k := 215) (k1 := 216) h82 (by decide +kernel) (by decide +kernel) rfl (fun c83 h83 => ?_)
  refine R_aload_n (pc' := 393) dX9_init_392 rfl (by decide) rfl ?_
  refine R_iconst (pc' := 394) dX9_init_393 rfl ?_
  refine R_newa_boolean (len := 5) (pc' := 396) dX9_init_394 w_ac_boolean (by decide) (Nat.le_of_ble_eq_true rfl) (Nat.le_of_ble_eq_true rfl) (okR_mk (n := 130) (by decide)) (okR_mk (n := 130) (by decide)) rfl ?_
  refine W_new (n := 130) (k := 216) (xi := 130) (n1 := 131) (kc1 := 22) (ks1 := 1284) h83 (by decide +kernel) (by decide +kernel) rfl rfl rfl rfl (fun c84 h84 => ?_)
  refine R_putfFr (j := 42) (len := 0) (pc' := 399) dX9_init_396 l_RX9_138 (isC_mk ⟨by decide, by decide⟩ (by decide +kernel)) fd9_42.1 fd9_42.2.1 fd9_42.2.2.2 rfl rfl fd9_42.2.2.1 (show (130 : Int) < ((131 : Nat) : Int) by decide) rfl ?_
  refine W_put (k := 216) (k1 := 217) h84 (by decide +kernel) (by decide +kernel) rfl (fun c85 h85 => ?_)
  refine R_aload_n (pc' := 400) dX9_init_399 rfl (by decide) rfl ?_
  refine R_bipush (pc' := 402) dX9_init_400 (by decide) rfl ?_
  refine R_newa_int (len := 6) (pc' := 404) dX9_init_402 w_ac_int (by decide) (Nat.le_of_ble_eq_true rfl) (Nat.le_of_ble_eq_true rfl) (okR_mk (n := 131) (by decide)) (okR_mk (n := 131) (by decide)) rfl ?_
  refine W_new (n := 131) (k := 217) (xi := 131) (n1 := 132) (kc1 := 23) (ks1 := 1290) h85 (by decide +kernel) (by decide +kernel) rfl rfl rfl rfl (fun c86 h86 => ?_)
  refine R_putfFr (j := 43) (len := 0) (pc' := 407) dX9_init_404 l_RX9_141 (isC_mk ⟨by decide, by decide⟩ (by decide +kernel)) fd9_43.1 fd9_43.2.1 fd9_43.2.2.2 rfl rfl fd9_43.2.2.1 (show (131 : Int) < ((132 : Nat) : Int) by decide) rfl ?_
  refine W_put (k := 217) (k1 := 218) h86 (by decide +kernel) (by decide +kernel) rfl (fun c87 h87 => ?_)
  refine R_aload_n (pc' := 408) dX9_init_407 rfl (by decide) rfl ?_
  refine R_iconst (pc' := 409) dX9_init_408 rfl ?_
  refine R_putfi (j := 44) (len := 0) (pc' := 412) dX9_init_409 l_RX9_144 (isC_mk ⟨by decide, by decide⟩ (by decide +kernel)) fd9_44.1 fd9_44.2.1 fd9_44.2.2.2.1 fd9_44.2.2.2.2 rfl ?_
  refine W_put (k := 218) (k1 := 219) h87 (by decide +kernel) (by decide +kernel) rfl (fun c88 h88 => ?_)
  refine R_aload_n (pc' := 413) dX9_init_412 rfl (by decide) rfl ?_
  refine R_iconst (pc' := 414) dX9_init_413 rfl ?_
  refine R_putfi (j := 45) (len := 0) (pc' := 417) dX9_init_414 l_RX9_147 (isC_mk ⟨by decide, by decide⟩ (by decide +kernel)) fd9_45.1 fd9_45.2.1 fd9_45.2.2.2.1 fd9_45.2.2.2.2 rfl ?_
  refine W_put (k := 219) (k1 := 220) h88 (by decide +kernel) (by decide +kernel) rfl (fun c89 h89 => ?_)
  refine R_aload_n (pc' := 418) dX9_init_417 rfl (by decide) rfl ?_
  refine R_bipush (pc' := 420) dX9_init_418 (by decide) rfl ?_
  refine R_newa_int (len := 10) (pc' := 422) dX9_init_420 w_ac_int (by decide) (Nat.le_of_ble_eq_true rfl) (Nat.le_of_ble_eq_true rfl) (okR_mk (n := 132) (by decide)) (okR_mk (n := 132) (by decide)) rfl ?_
  refine W_new (n := 132) (k := 220) (xi := 132) (n1 := 133) (kc1 := 24) (ks1 := 1300) h89 (by decide +kernel) (by decide +kernel) rfl rfl rfl rfl (fun c90 h90 => ?_)
  refine R_putfFr (j := 46) (len := 0) (pc' := 425) dX9_init_422 l_RX9_150 (isC_mk ⟨by decide, by decide⟩ (by decide +kernel)) fd9_46.1 fd9_46.2.1 fd9_46.2.2.2 rfl rfl fd9_46.2.2.1 (show (132 : Int) < ((133 : Nat) : Int) by decide) rfl ?_
  refine W_put (k := 220) (k1 := 221) h90 (by decide +kernel) (by decide +kernel) rfl (fun c91 h91 => ?_)
  refine R_aload_n (pc' := 426) dX9_init_425 rfl (by decide) rfl ?_
  refine R_bipush (pc' := 428) dX9_init_426 (by decide) rfl ?_
  refine R_newa_int (len := 10) (pc' := 430) dX9_init_428 w_ac_int (by decide) (Nat.le_of_ble_eq_true rfl) (Nat.le_of_ble_eq_true rfl) (okR_mk (n := 133) (by decide)) (okR_mk (n := 133) (by decide)) rfl ?_
  refine W_new (n := 133) (k := 221) (xi := 133) (n1 := 134) (kc1 := 25) (ks1 := 1310) h91 (by decide +kernel) (by decide +kernel) rfl rfl rfl rfl (fun c92 h92 => ?_)
  refine R_putfFr (j := 47) (len := 0) (pc' := 433) dX9_init_430 l_RX9_153 (isC_mk ⟨by decide, by decide⟩ (by decide +kernel)) fd9_47.1 fd9_47.2.1 fd9_47.2.2.2 rfl rfl fd9_47.2.2.1 (show (133 : Int) < ((134 : Nat) : Int) by decide) rfl ?_
  refine W_put (k := 221) (k1 := 222) h92 (by decide +kernel) (by decide +kernel) rfl (fun c93 h93 => ?_)
  refine R_aload_n (pc' := 434) dX9_init_433 rfl (by decide) rfl ?_
  refine R_bipush (pc' := 436) dX9_init_434 (by decide) rfl ?_
  refine R_newa_int (len := 8) (pc' := 438) dX9_init_436 w_ac_int (by decide) (Nat.le_of_ble_eq_true rfl) (Nat.le_of_ble_eq_true rfl) (okR_mk (n := 134) (by decide)) (okR_mk (n := 134) (by decide)) rfl ?_
  refine W_new (n := 134) (k := 222) (xi := 134) (n1 := 135) (kc1 := 26) (ks1 := 1318) h93 (by decide +kernel) (by decide +kernel) rfl rfl rfl rfl (fun c94 h94 => ?_)
  refine R_putfFr (j := 48) (len := 0) (pc' := 441) dX9_init_438 l_RX9_156 (isC_mk ⟨by decide, by decide⟩ (by decide +kernel)) fd9_48.1 fd9_48.2.1 fd9_48.2.2.2 rfl rfl fd9_48.2.2.1 (show (134 : Int) < ((135 : Nat) : Int) by decide) rfl ?_
  refine W_put (k := 222) (k1 := 223) h94 (by decide +kernel) (by decide +kernel) rfl (fun c95 h95 => ?_)
  refine R_aload_n (pc' := 442) dX9_init_441 rfl (by decide) rfl ?_
  refine R_bipush (pc' := 444) dX9_init_442 (by decide) rfl ?_
  refine R_newa_int (len := 8) (pc' := 446) dX9_init_444 w_ac_int (by decide) (Nat.le_of_ble_eq_true rfl) (Nat.le_of_ble_eq_true rfl) (okR_mk (n := 135) (by decide)) (okR_mk (n := 135) (by decide)) rfl ?_
  refine W_new (n := 135) (k := 223) (xi := 135) (n1 := 136) (kc1 := 27) (ks1 := 1326) h95 (by decide +kernel) (by decide +kernel) rfl rfl rfl rfl (fun c96 h96 => ?_)
  refine R_putfFr (j := 49) (len := 0) (pc' := 449) dX9_init_446 l_RX9_159 (isC_mk ⟨by decide, by decide⟩ (by decide +kernel)) fd9_49.1 fd9_49.2.1 fd9_49.2.2.2 rfl rfl fd9_49.2.2.1 (show (135 : Int) < ((136 : Nat) : Int) by decide) rfl ?_
  refine W_put (k := 223) (k1 := 224) h96 (by decide +kernel) (by decide +kernel) rfl (fun c97 h97 => ?_)
  refine R_aload_n (pc' := 450) dX9_init_449 rfl (by decide) rfl ?_
  refine R_iconst (pc' := 451) dX9_init_450 rfl ?_
  refine R_putfz (j := 50) (len := 0) (pc' := 454) dX9_init_451 l_RX9_162 (isC_mk ⟨by decide, by decide⟩ (by decide +kernel)) fd9_50.1 fd9_50.2.1 fd9_50.2.2.2.1 fd9_50.2.2.2.2 (Or.inl rfl) rfl ?_
  refine W_put (k := 224) (k1 := 225) h97 (by decide +kernel) (by decide +kernel) rfl (fun c98 h98 => ?_)
  refine R_aload_n (pc' := 455) dX9_init_454 rfl (by decide) rfl ?_
  refine R_iconst (pc' := 456) dX9_init_455 rfl ?_
  refine R_putfi (j := 51) (len := 0) (pc' := 459) dX9_init_456 l_RX9_166 (isC_mk ⟨by decide, by decide⟩ (by decide +kernel)) fd9_51.1 fd9_51.2.1 fd9_51.2.2.2.1 fd9_51.2.2.2.2 rfl ?_
  refine W_put (k := 225) (k1 := 226) h98 (by decide +kernel) (by decide +kernel) rfl (fun c99 h99 => ?_)
  refine R_aload_n (pc' := 460) dX9_init_459 rfl (by decide) rfl ?_
  refine R_iconst (pc' := 461) dX9_init_460 rfl ?_
  refine R_putfi (j := 52) (len := 0) (pc' := 464) dX9_init_461 l_RX9_169 (isC_mk ⟨by decide, by decide⟩ (by decide +kernel)) fd9_52.1 fd9_52.2.1 fd9_52.2.2.2.1 fd9_52.2.2.2.2 rfl ?_
  refine W_put (k := 226) (k1 := 227) h99 (by decide +kernel) (by decide +kernel) rfl (fun c100 h100 => ?_)
  refine R_aload_n (pc' := 465) dX9_init_464 rfl (by decide) rfl ?_
  refine R_iconst (pc' := 466) dX9_init_465 rfl ?_
  refine R_putfi (j := 53) (len := 0) (pc' := 469) dX9_init_466 l_RX9_172 (isC_mk ⟨by decide, by decide⟩ (by decide +kernel)) fd9_53.1 fd9_53.2.1 fd9_53.2.2.2.1 fd9_53.2.2.2.2 rfl ?_
  refine W_put (k := 227) (k1 := 228) h100 (by decide +kernel) (by decide +kernel) rfl (fun c101 h101 => ?_)
  refine R_aload_n (pc' := 470) dX9_init_469 rfl (by decide) rfl ?_
  refine R_iconst (pc' := 471) dX9_init_470 rfl ?_
  refine R_putfi (j := 54) (len := 0) (pc' := 474) dX9_init_471 l_RX9_175 (isC_mk ⟨by decide, by decide⟩ (by decide +kernel)) fd9_54.1 fd9_54.2.1 fd9_54.2.2.2.1 fd9_54.2.2.2.2 rfl ?_
  refine W_put (k := 228) (k1 := 229) h101 (by decide +kernel) (by decide +kernel) rfl (fun c102 h102 => ?_)
  refine R_aload_n (pc' := 475) dX9_init_474 rfl (by decide) rfl ?_
  refine R_iconst (pc' := 476) dX9_init_475 rfl ?_
  refine R_putfi (j := 55) (len := 0) (pc' := 479) dX9_init_476 l_RX9_178 (isC_mk ⟨by decide, by decide⟩ (by decide +kernel)) fd9_55.1 fd9_55.2.1 fd9_55.2.2.2.1 fd9_55.2.2.2.2 rfl ?_
  refine W_put (k := 229) (k1 := 230) h102 (by decide +kernel) (by decide +kernel) rfl (fun c103 h103 => ?_)
  refine R_aload_n (pc' := 480) dX9_init_479 rfl (by decide) rfl ?_
  refine R_iconst (pc' := 481) dX9_init_480 rfl ?_
  refine R_putfi (j := 56) (len := 0) (pc' := 484) dX9_init_481 l_RX9_181 (isC_mk ⟨by decide, by decide⟩ (by decide +kernel)) fd9_56.1 fd9_56.2.1 fd9_56.2.2.2.1 fd9_56.2.2.2.2 rfl ?_
  refine W_put (k := 230) (k1 := 231) h103 (by decide +kernel) (by decide +kernel) rfl (fun c104 h104 => ?_)
  refine R_aload_n (pc' := 485) dX9_init_484 rfl (by decide) rfl ?_
  refine R_iconst (pc' := 486) dX9_init_485 rfl ?_
  refine R_putfi (j := 57) (len := 0) (pc' := 489) dX9_init_486 l_RX9_184 (isC_mk ⟨by decide, by decide⟩ (by decide +kernel)) fd9_57.1 fd9_57.2.1 fd9_57.2.2.2.1 fd9_57.2.2.2.2 rfl ?_
  refine W_put (k := 231) (k1 := 232) h104 (by decide +kernel) (by decide +kernel) rfl (fun c105 h105 => ?_)
  refine R_aload_n (pc' := 490) dX9_init_489 rfl (by decide) rfl ?_
  refine R_iconst (pc' := 491) dX9_init_490 rfl ?_
  refine R_putfi (j := 58) (len := 0) (pc' := 494) dX9_init_491 l_RX9_187 (isC_mk ⟨by decide, by decide⟩ (by decide +kernel)) fd9_58.1 fd9_58.2.1 fd9_58.2.2.2.1 fd9_58.2.2.2.2 rfl ?_
  refine W_put (k := 232) (k1 := 233) h105 (by decide +kernel) (by decide +kernel) rfl (fun c106 h106 => ?_)
  refine R_aload_n (pc' := 495) dX9_init_494 rfl (by decide) rfl ?_
  refine R_iconst (pc' := 496) dX9_init_495 rfl ?_
  refine R_putfi (j := 59) (len := 0) (pc' := 499) dX9_init_496 l_RX9_190 (isC_mk ⟨by decide, by decide⟩ (by decide +kernel)) fd9_59.1 fd9_59.2.1 fd9_59.2.2.2.1 fd9_59.2.2.2.2 rfl ?_
  refine W_put (k := 233) (k1 := 234) h106 (by decide +kernel) (by decide +kernel) rfl (fun c107 h107 => ?_)
  refine R_aload_n (pc' := 500) dX9_init_499 rfl (by decide) rfl ?_
  refine R_bipush (pc' := 502) dX9_init_500 (by decide) rfl ?_
  refine R_newa_int (len := 6) (pc' := 504) dX9_init_502 w_ac_int (by decide) (Nat.le_of_ble_eq_true rfl) (Nat.le_of_ble_eq_true rfl) (okR_mk (n := 136) (by decide)) (okR_mk (n := 136) (by decide)) rfl ?_
  refine W_new (n := 136) (k := 234) (xi := 136) (n1 := 137) (kc1 := 28) (ks1 := 1332) h107 (by decide +kernel) (by decide +kernel) rfl rfl rfl rfl (fun c108 h108 => ?_)
  refine R_putfFr (j := 60) (len := 0) (pc' := 507) dX9_init_504 l_RX9_193 (isC_mk ⟨by decide, by decide⟩ (by decide +kernel)) fd9_60.1 fd9_60.2.1 fd9_60.2.2.2 rfl rfl fd9_60.2.2.1 (show (136 : Int) < ((137 : Nat) : Int) by decide) rfl ?_
  refine W_put (k := 234) (k1 := 235) h108 (by decide +kernel) (by decide +kernel) rfl (fun c109 h109 => ?_)
  refine R_aload_n (pc' := 508) dX9_init_507 rfl (by decide) rfl ?_
  refine R_bipush (pc' := 510) dX9_init_508 (by decide) rfl ?_
  refine R_newa_int (len := 6) (pc' := 512) dX9_init_510 w_ac_int (by decide) (Nat.le_of_ble_eq_true rfl) (Nat.le_of_ble_eq_true rfl) (okR_mk (n := 137) (by decide)) (okR_mk (n := 137) (by decide)) rfl ?_
  refine W_new (n := 137) (k := 235) (xi := 137) (n1 := 138) (kc1 := 29) (ks1 := 1338) h109 (by decide +kernel) (by decide +kernel) rfl rfl rfl rfl (fun c110 h110 => ?_)
  refine R_putfFr (j := 61) (len := 0) (pc' := 515) dX9_init_512 l_RX9_196 (isC_mk ⟨by decide, by decide⟩ (by decide +kernel)) fd9_61.1 fd9_61.2.1 fd9_61.2.2.2 rfl rfl fd9_61.2.2.1 (show (137 : Int) < ((138 : Nat) : Int) by decide) rfl ?_
  refine W_put (k := 235) (k1 := 236) h110 (by decide +kernel) (by decide +kernel) rfl (fun c111 h111 => ?_)
  refine R_aload_n (pc' := 516) dX9_init_515 rfl (by decide) rfl ?_
  refine R_bipush (pc' := 518) dX9_init_516 (by decide) rfl ?_
  refine R_newa_int (len := 6) (pc' := 520) dX9_init_518 w_ac_int (by decide) (Nat.le_of_ble_eq_true rfl) (Nat.le_of_ble_eq_true rfl) (okR_mk (n := 138) (by decide)) (okR_mk (n := 138) (by decide)) rfl ?_
  refine W_new (n := 138) (k := 236) (xi := 138) (n1 := 139) (kc1 := 30) (ks1 := 1344) h111 (by decide +kernel) (by decide +kernel) rfl rfl rfl rfl (fun c112 h112 => ?_)
  refine R_putfFr (j := 62) (len := 0) (pc' := 523) dX9_init_520 l_RX9_199 (isC_mk ⟨by decide, by decide⟩ (by decide +kernel)) fd9_62.1 fd9_62.2.1 fd9_62.2.2.2 rfl rfl fd9_62.2.2.1 (show (138 : Int) < ((139 : Nat) : Int) by decide) rfl ?_
  refine W_put (k := 236) (k1 := 237) h112 (by decide +kernel) (by decide +kernel) rfl (fun c113 h113 => ?_)
  refine R_aload_n (pc' := 524) dX9_init_523 rfl (by decide) rfl ?_
  refine R_bipush (pc' := 526) dX9_init_524 (by decide) rfl ?_
  refine R_newa_int (len := 6) (pc' := 528) dX9_init_526 w_ac_int (by decide) (Nat.le_of_ble_eq_true rfl) (Nat.le_of_ble_eq_true rfl) (okR_mk (n := 139) (by decide)) (okR_mk (n := 139) (by decide)) rfl ?_
  refine W_new (n := 139) (k := 237) (xi := 139) (n1 := 140) (kc1 := 31) (ks1 := 1350) h113 (by decide +kernel) (by decide +kernel) rfl rfl rfl rfl (fun c114 h114 => ?_)
  refine R_putfFr (j := 63) (len := 0) (pc' := 531) dX9_init_528 l_RX9_202 (isC_mk ⟨by decide, by decide⟩ (by decide +kernel)) fd9_63.1 fd9_63.2.1 fd9_63.2.2.2 rfl rfl fd9_63.2.2.1 (show (139 : Int) < ((140 : Nat) : Int) by decide) rfl ?_
  refine W_put (k := 237) (k1 := 238) h114 (by decide +kernel) (by decide +kernel) rfl (fun c115 h115 => ?_)
  refine R_aload_n (pc' := 532) dX9_init_531 rfl (by decide) rfl ?_
  refine R_bipush (pc' := 534) dX9_init_532 (by decide) rfl ?_
  refine R_newa_int (len := 24) (pc' := 536) dX9_init_534 w_ac_int (by decide) (Nat.le_of_ble_eq_true rfl) (Nat.le_of_ble_eq_true rfl) (okR_mk (n := 140) (by decide)) (okR_mk (n := 140) (by decide)) rfl ?_
  refine W_new (n := 140) (k := 238) (xi := 140) (n1 := 141) (kc1 := 32) (ks1 := 1374) h115 (by decide +kernel) (by decide +kernel) rfl rfl rfl rfl (fun c116 h116 => ?_)
  refine R_putfFr (j := 64) (len := 0) (pc' := 539) dX9_init_536 l_RX9_205 (isC_mk ⟨by decide, by decide⟩ (by decide +kernel)) fd9_64.1 fd9_64.2.1 fd9_64.2.2.2 rfl rfl fd9_64.2.2.1 (show (140 : Int) < ((141 : Nat) : Int) by decide) rfl ?_
  refine W_put (k := 238) (k1 := 239) h116 (by decide +kernel) (by decide +kernel) rfl (fun c117 h117 => ?_)
  refine R_aload_n (pc' := 540) dX9_init_539 rfl (by decide) rfl ?_
  refine R_iconst (pc' := 541) dX9_init_540 rfl ?_
  refine R_newa_int (len := 5) (pc' := 543) dX9_init_541 w_ac_int (by decide) (Nat.le_of_ble_eq_true rfl) (Nat.le_of_ble_eq_true rfl) (okR_mk (n := 141) (by decide)) (okR_mk (n := 141) (by decide)) rfl ?_
  refine W_new (n := 141) (k := 239) (xi := 141) (n1 := 142) (kc1 := 33) (ks1 := 1379) h117 (by decide +kernel) (by decide +kernel) rfl rfl rfl rfl (fun c118 h118 => ?_)
  refine R_putfFr (j := 65) (len := 0) (pc' := 546) dX9_init_543 l_RX9_208 (isC_mk ⟨by decide, by decide⟩ (by decide +kernel)) fd9_65.1 fd9_65.2.1 fd9_65.2.2.2 rfl rfl fd9_65.2.2.1 (show (141 : Int) < ((142 : Nat) : Int) by decide) rfl ?_
  refine W_put (k := 239) (k1 := 240) h118 (by decide +kernel) (by decide +kernel) rfl (fun c119 h119 => ?_)
  refine R_aload_n (pc' := 547) dX9_init_546 rfl (by decide) rfl ?_
  refine R_iconst (pc' := 548) dX9_init_547 rfl ?_
  refine R_newa_int (len := 5) (pc' := 550) dX9_init_548 w_ac_int (by decide) (Nat.le_of_ble_eq_true rfl) (Nat.le_of_ble_eq_true rfl) (okR_mk (n := 142) (by decide)) (okR_mk (n := 142) (by decide)) rfl ?_
  refine W_new (n := 142) (k := 240) (xi := 142) (n1 := 143) (kc1 := 34) (ks1 := 1384) h119 (by decide +kernel) (by decide +kernel) rfl rfl rfl rfl (fun c120 h120 => ?_)
  refine R_putfFr (j := 66) (len := 0) (pc' := 553) dX9_init_550 l_RX9_211 (isC_mk ⟨by decide, by decide⟩ (by decide +kernel)) fd9_66.1 fd9_66.2.1 fd9_66.2.2.2 rfl rfl fd9_66.2.2.1 (show (142 : Int) < ((143 : Nat) : Int) by decide) rfl ?_
  refine W_put (k := 240) (k1 := 241) h120 (by decide +kernel) (by decide +kernel) rfl (fun c121 h121 => ?_)
  refine R_aload_n (pc' := 554) dX9_init_553 rfl (by decide) rfl ?_
  refine R_bipush (pc' := 556) dX9_init_554 (by decide) rfl ?_
  refine R_newa_int (len := 10) (pc' := 558) dX9_init_556 w_ac_int (by decide) (Nat.le_of_ble_eq_true rfl) (Nat.le_of_ble_eq_true rfl) (okR_mk (n := 143) (by decide)) (okR_mk (n := 143) (by decide)) rfl ?_
  refine W_new (n := 143) (k := 241) (xi := 143) (n1 := 144) (kc1 := 35) (ks1 := 1394) h121 (by decide +kernel) (by decide +kernel) rfl rfl rfl rfl (fun c122 h122 => ?_)
  refine R_putfFr (j := 67) (len := 0) (pc' := 561) dX9_init_558 l_RX9_214 (isC_mk ⟨by decide, by decide⟩ (by decide +kernel)) fd9_67.1 fd9_67.2.1 fd9_67.2.2.2 rfl rfl fd9_67.2.2.1 (show (143 : Int) < ((144 : Nat) : Int) by decide) rfl ?_
  refine W_put (k := 241) (k1 := 242) h122 (by decide +kernel) (by decide +kernel) rfl (fun c123 h123 => ?_)
  refine R_aload_n (pc' := 562) dX9_init_561 rfl (by decide) rfl ?_
  refine R_bipush (pc' := 564) dX9_init_562 (by decide) rfl ?_
  refine R_newa_int (len := 10) (pc' := 566) dX9_init_564 w_ac_int (by decide) (Nat.le_of_ble_eq_true rfl) (Nat.le_of_ble_eq_true rfl) (okR_mk (n := 144) (by decide)) (okR_mk (n := 144) (by decide)) rfl ?_
  refine W_new (n := 144) (k := 242) (xi := 144) (n1 := 145) (kc1 := 36) (ks1 := 1404) h123 (by decide +kernel) (by decide +kernel) rfl rfl rfl rfl (fun c124 h124 => ?_)
  refine R_putfFr (j := 68) (len := 0) (pc' := 569) dX9_init_566 l_RX9_217 (isC_mk ⟨by decide, by decide⟩ (by decide +kernel)) fd9_68.1 fd9_68.2.1 fd9_68.2.2.2 rfl rfl fd9_68.2.2.1 (show (144 : Int) < ((145 : Nat) : Int) by decide) rfl ?_
  refine W_put (k := 242) (k1 := 243) h124 (by decide +kernel) (by decide +kernel) rfl (fun c125 h125 => ?_)
  refine R_aload_n (pc' := 570) dX9_init_569 rfl (by decide) rfl ?_
  refine R_bipush (pc' := 572) dX9_init_570 (by decide) rfl ?_
  refine R_newa_int (len := 8) (pc' := 574) dX9_init_572 w_ac_int (by decide) (Nat.le_of_ble_eq_true rfl) (Nat.le_of_ble_eq_true rfl) (okR_mk (n := 145) (by decide)) (okR_mk (n := 145) (by decide)) rfl ?_
  refine W_new (n := 145) (k := 243) (xi := 145) (n1 := 146) (kc1 := 37) (ks1 := 1412) h125 (by decide +kernel) (by decide +kernel) rfl rfl rfl rfl (fun c126 h126 => ?_)
  refine R_putfFr (j := 69) (len := 0) (pc' := 577) dX9_init_574 l_RX9_220 (isC_mk ⟨by decide, by decide⟩ (by decide +kernel)) fd9_69.1 fd9_69.2.1 fd9_69.2.2.2 rfl rfl fd9_69.2.2.1 (show (145 : Int) < ((146 : Nat) : Int) by decide) rfl ?_
  refine W_put (k := 243) (k1 := 244) h126 (by decide +kernel) (by decide +kernel) rfl (fun c127 h127 => ?_)
  refine R_aload_n (pc' := 578) dX9_init_577 rfl (by decide) rfl ?_
  refine R_bipush (pc' := 580) dX9_init_578 (by decide) rfl ?_
  refine R_newa_int (len := 8) (pc' := 582) dX9_init_580 w_ac_int (by decide) (Nat.le_of_ble_eq_true rfl) (Nat.le_of_ble_eq_true rfl) (okR_mk (n := 146) (by decide)) (okR_mk (n := 146) (by decide)) rfl ?_
  refine W_new (n := 146) (k := 244) (xi := 146) (n1 := 147) (kc1 := 38) (ks1 := 1420) h127 (by decide +kernel) (by decide +kernel) rfl rfl rfl rfl (fun c128 h128 => ?_)
  refine R_putfFr (j := 70) (len := 0) (pc' := 585) dX9_init_582 l_RX9_223 (isC_mk ⟨by decide, by decide⟩ (by decide +kernel)) fd9_70.1 fd9_70.2.1 fd9_70.2.2.2 rfl rfl fd9_70.2.2.1 (show (146 : Int) < ((147 : Nat) : Int) by decide) rfl ?_
  refine W_put (k := 244) (k1 := 245) h128 (by decide +kernel) (by decide +kernel) rfl (fun c129 h129 => ?_)
  refine R_aload_n (pc' := 586) dX9_init_585 rfl (by decide) rfl ?_
  refine R_iconst (pc' := 587) dX9_init_586 rfl ?_
  refine R_newa_boolean (len := 5) (pc' := 589) dX9_init_587 w_ac_boolean (by decide) (Nat.le_of_ble_eq_true rfl) (Nat.le_of_ble_eq_true rfl) (okR_mk (n := 147) (by decide)) (okR_mk (n := 147) (by decide)) rfl ?_
  refine W_new (n := 147) (k := 245) (xi := 147) (n1 := 148) (kc1 := 39) (ks1 := 1425) h129 (by decide +kernel) (by decide +kernel) rfl rfl rfl rfl (fun c130 h130 => ?_)
  refine R_putfFr (j := 71) (len := 0) (pc' := 592) dX9_init_589 l_RX9_226 (isC_mk ⟨by decide, by decide⟩ (by decide +kernel)) fd9_71.1 fd9_71.2.1 fd9_71.2.2.2 rfl rfl fd9_71.2.2.1 (show (147 : Int) < ((148 : Nat) : Int) by decide) rfl ?_
  refine W_put (k := 245) (k1 := 246) h130 (by decide +kernel) (by decide +kernel) rfl (fun c131 h131 => ?_)
  refine R_aload_n (pc' := 593) dX9_init_592 rfl (by decide) rfl ?_
  refine R_iconst (pc' := 594) dX9_init_593 rfl ?_
  refine R_putfi (j := 72) (len := 0) (pc' := 597) dX9_init_594 l_RX9_229 (isC_mk ⟨by decide, by decide⟩ (by decide +kernel)) fd9_72.1 fd9_72.2.1 fd9_72.2.2.2.1 fd9_72.2.2.2.2 rfl ?_
  refine W_put (k := 246) (k1 := 247) h131 (by decide +kernel) (by decide +kernel) rfl (fun c132 h132 => ?_)
  refine R_aload_n (pc' := 598) dX9_init_597 rfl (by decide) rfl ?_
  refine R_bipush (pc' := 600) dX9_init_598 (by decide) rfl ?_
  refine R_newa_int (len := 20) (pc' := 602) dX9_init_600 w_ac_int (by decide) (Nat.le_of_ble_eq_true rfl) (Nat.le_of_ble_eq_true rfl) (okR_mk (n := 148) (by decide)) (okR_mk (n := 148) (by decide)) rfl ?_
  refine W_new (n := 148) (k := 247) (xi := 148) (n1 := 149) (kc1 := 40) (ks1 := 1445) h132 (by decide +kernel) (by decide +kernel) rfl rfl rfl rfl (fun c133 h133 => ?_)
  refine R_putfFr (j := 73) (len := 0) (pc' := 605) dX9_init_602 l_RX9_232 (isC_mk ⟨by decide, by decide⟩ (by decide +kernel)) fd9_73.1 fd9_73.2.1 fd9_73.2.2.2 rfl rfl fd9_73.2.2.1 (show (148 : Int) < ((149 : Nat) : Int) by decide) rfl ?_
  refine W_put (k := 247) (k1 := 248) h133 (by decide +kernel) (by decide +kernel) rfl (fun c134 h134 => ?_)
  refine R_aload_n (pc' := 606) dX9_init_605 rfl (by decide) rfl ?_
  refine R_bipush (pc' := 608) dX9_init_606 (by decide) rfl ?_
  refine R_newa_int (len := 6) (pc' := 610) dX9_init_608 w_ac_int (by decide) (Nat.le_of_ble_eq_true rfl) (Nat.le_of_ble_eq_true rfl) (okR_mk (n := 149) (by decide)) (okR_mk (n := 149) (by decide)) rfl ?_
  refine W_new (n := 149) (k := 248) (xi := 149) (n1 := 150) (kc1 := 41) (ks1 := 1451) h134 (by decide +kernel) (by decide +kernel) rfl rfl rfl rfl (fun c135 h135 => ?_)
  refine R_dup (pc' := 611) dX9_init_610 (by simp) rfl ?_
  refine R_iconst (pc' := 612) dX9_init_611 rfl ?_
  refine R_iconst (pc' := 613) dX9_init_612 rfl ?_
  refine R_iastore (pc' := 614) dX9_init_613 (len := 6) (isC_mk ⟨by decide, by decide⟩ (by decide +kernel)) (by decide) (by decide) (by decide) rfl ?_
  refine W_put (k := 248) (k1 := 249) h135 (by decide +kernel) (by decide +kernel) rfl (fun c136 h136 => ?_)
  refine R_dup (pc' := 615) dX9_init_614 (by simp) rfl ?_
  refine R_iconst (pc' := 616) dX9_init_615 rfl ?_
  refine R_iconst (pc' := 617) dX9_init_616 rfl ?_
  refine R_iastore (pc' := 618) dX9_init_617 (len := 6) (isC_mk ⟨by decide, by decide⟩ (by decide +kernel)) (by decide) (by decide) (by decide) rfl ?_
  refine W_put (k := 249) (k1 := 250) h136 (by decide +kernel) (by decide +kernel) rfl (fun c137 h137 => ?_)
  refine R_dup (pc' := 619) dX9_init_618 (by simp) rfl ?_
  refine R_iconst (pc' := 620) dX9_init_619 rfl ?_
  refine R_iconst (pc' := 621) dX9_init_620 rfl ?_
  refine R_iastore (pc' := 622) dX9_init_621 (len := 6) (isC_mk ⟨by decide, by decide⟩ (by decide +kernel)) (by decide) (by decide) (by decide) rfl ?_
  refine W_put (k := 250) (k1 := 251) h137 (by decide +kernel) (by decide +kernel) rfl (fun c138 h138 => ?_)
  refine R_dup (pc' := 623) dX9_init_622 (by simp) rfl ?_
  refine R_iconst (pc' := 624) dX9_init_623 rfl ?_
  refine R_iconst (pc' := 625) dX9_init_624 rfl ?_
  refine R_iastore (pc' := 626) dX9_init_625 (len := 6) (isC_mk ⟨by decide, by decide⟩ (by decide +kernel)) (by decide) (by decide) (by decide) rfl ?_
  refine W_put (k := 251) (k1 := 252) h138 (by decide +kernel) (by decide +kernel) rfl (fun c139 h139 => ?_)
  refine R_dup (pc' := 627) dX9_init_626 (by simp) rfl ?_
  refine R_iconst (pc' := 628) dX9_init_627 rfl ?_
  refine R_iconst (pc' := 629) dX9_init_628 rfl ?_
  refine R_iastore (pc' := 630) dX9_init_629 (len := 6) (isC_mk ⟨by decide, by decide⟩ (by decide +kernel)) (by decide) (by decide) (by decide) rfl ?_
  refine W_put (k := 252) (k1 := 253) h139 (by decide +kernel) (by decide +kernel) rfl (fun c140 h140 => ?_)
  refine R_dup (pc' := 631) dX9_init_630 (by simp) rfl ?_
  refine R_iconst (pc' := 632) dX9_init_631 rfl ?_
  refine R_iconst (pc' := 633) dX9_init_632 rfl ?_
  refine R_iastore (pc' := 634) dX9_init_633 (len := 6) (isC_mk ⟨by decide, by decide⟩ (by decide +kernel)) (by decide) (by decide) (by decide) rfl ?_
  refine W_put (k := 253) (k1 := 254) h140 (by decide +kernel) (by decide +kernel) rfl (fun c141 h141 => ?_)
  refine R_putfFr (j := 74) (len := 0) (pc' := 637) dX9_init_634 l_RX9_235 (isC_mk ⟨by decide, by decide⟩ (by decide +kernel)) fd9_74.1 fd9_74.2.1 fd9_74.2.2.2 rfl rfl fd9_74.2.2.1 (show (149 : Int) < ((150 : Nat) : Int) by decide) rfl ?_
  refine W_put (k := 254) (k1 := 255) h141 (by decide +kernel) (by decide +kernel) rfl (fun c142 h142 => ?_)
  refine R_aload_n (pc' := 638) dX9_init_637 rfl (by decide) rfl ?_
  refine R_bipush (pc' := 640) dX9_init_638 (by decide) rfl ?_
  refine R_newa_int (len := 6) (pc' := 642) dX9_init_640 w_ac_int (by decide) (Nat.le_of_ble_eq_true rfl) (Nat.le_of_ble_eq_true rfl) (okR_mk (n := 150) (by decide)) (okR_mk (n := 150) (by decide)) rfl ?_
  refine W_new (n := 150) (k := 255) (xi := 150) (n1 := 151) (kc1 := 42) (ks1 := 1457) h142 (by decide +kernel) (by decide +kernel) rfl rfl rfl rfl (fun c143 h143 => ?_)
  refine R_putfFr (j := 75) (len := 0) (pc' := 645) dX9_init_642 l_RX9_238 (isC_mk ⟨by decide, by decide⟩ (by decide +kernel)) fd9_75.1 fd9_75.2.1 fd9_75.2.2.2 rfl rfl fd9_75.2.2.1 (show (150 : Int) < ((151 : Nat) : Int) by decide) rfl ?_
  refine W_put (k := 255) (k1 := 256) h143 (by decide +kernel) (by decide +kernel) rfl (fun c144 h144 => ?_)
  refine R_aload_n (pc' := 646) dX9_init_645 rfl (by decide) rfl ?_
  refine R_sipush (pc' := 649) dX9_init_646 (by decide) rfl ?_
  refine R_newa_long (len := 360) (pc' := 651) dX9_init_649 w_ac_long (by decide) (Nat.le_of_ble_eq_true rfl) (Nat.le_of_ble_eq_true rfl) (okR_mk (n := 151) (by decide)) (okR_mk (n := 151) (by decide)) rfl ?_
  refine W_new (n := 151) (k := 256) (xi := 151) (n1 := 152) (kc1 := 43) (ks1 := 1817) h144 (by decide +kernel) (by decide +kernel) rfl rfl rfl rfl (fun c145 h145 => ?_)
  refine R_putfFr (j := 76) (len := 0) (pc' := 654) dX9_init_651 l_RX9_241 (isC_mk ⟨by decide, by decide⟩ (by decide +kernel)) fd9_76.1 fd9_76.2.1 fd9_76.2.2.2 rfl rfl fd9_76.2.2.1 (show (151 : Int) < ((152 : Nat) : Int) by decide) rfl ?_
  refine W_put (k := 256) (k1 := 257) h145 (by decide +kernel) (by decide +kernel) rfl (fun c146 h146 => ?_)
  refine R_aload_n (pc' := 655) dX9_init_654 rfl (by decide) rfl ?_
  refine R_bipush (pc' := 657) dX9_init_655 (by decide) rfl ?_
  refine R_newa_long (len := 60) (pc' := 659) dX9_init_657 w_ac_long (by decide) (Nat.le_of_ble_eq_true rfl) (Nat.le_of_ble_eq_true rfl) (okR_mk (n := 152) (by decide)) (okR_mk (n := 152) (by decide)) rfl ?_
  refine W_new (n := 152) (k := 257) (xi := 152) (n1 := 153) (kc1 := 44) (ks1 := 1877) h146 (by decide +kernel) (by decide +kernel) rfl rfl rfl rfl (fun c147 h147 => ?_)
  refine R_putfFr (j := 77) (len := 0) (pc' := 662) dX9_init_659 l_RX9_245 (isC_mk ⟨by decide, by decide⟩ (by decide +kernel)) fd9_77.1 fd9_77.2.1 fd9_77.2.2.2 rfl rfl fd9_77.2.2.1 (show (152 : Int) < ((153 : Nat) : Int) by decide) rfl ?_
  refine W_put (k := 257) (k1 := 258) h147 (by decide +kernel) (by decide +kernel) rfl (fun c148 h148 => ?_)
  exact R_ret dX9_init_662 rfl (Nat.le_of_ble_eq_true rfl) (Nat.le_of_ble_eq_true rfl) (hQ c148 h148)
