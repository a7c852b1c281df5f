/-! CONSTRUCTORS: the class -/
set_option maxRecDepth 100000 in
theorem i_X4_3 {K : SK} {d : Nat} {c : ct} {Q : hp → av → Prop} (h : OKc 4 2 c) (hQ : ∀ c', OKc 4 2 c' → Q (4, SH, c') (8, 0)) : CM K (d + 1) mX4_init [(2, 3)] (4, SH, c) Q := by
  refine CM_ofS (by decide) (Nat.le_of_ble_eq_true rfl) [(2, 3)] rfl ?_
  refine R_aload_n (pc' := 1) dX4_init_0 rfl (by decide) rfl ?_
  refine R_objInit (pc' := 4) dX4_init_1 (by decide) (by omega) (by decide) l_RX4_3 w_oi w_oc rfl ?_
  exact R_ret dX4_init_4 rfl (Nat.le_of_ble_eq_true rfl) (Nat.le_of_ble_eq_true rfl) (hQ c h)
set_option maxRecDepth 100000 in
theorem i_X0_4 {K : SK} {d : Nat} {c : ct} {Q : hp → av → Prop} (h : OKc 5 3 c) (hQ : ∀ c', OKc 6 4 c' → Q (6, SH, c') (8, 0)) : CM K (d + 1) mX0_init [(2, 4)] (5, SH, c) Q := by
  refine CM_ofS (by decide) (Nat.le_of_ble_eq_true rfl) [(2, 4)] rfl ?_
  refine R_aload_n (pc' := 1) dX0_init_0 rfl (by decide) rfl ?_
  refine R_objInit (pc' := 4) dX0_init_1 (by decide) (by omega) (by decide) l_RX0_3 w_oi w_oc rfl ?_
  refine R_aload_n (pc' := 5) dX0_init_4 rfl (by decide) rfl ?_
  refine R_bipush (pc' := 7) dX0_init_5 (by decide) rfl ?_
  refine R_newa_int (len := 20) (pc' := 9) dX0_init_7 w_ac_int (by decide) (Nat.le_of_ble_eq_true rfl) (Nat.le_of_ble_eq_true rfl) (okR_mk (n := 5) (by decide)) (okR_mk (n := 5) (by decide)) rfl ?_
  refine W_new (n := 5) (k := 3) (xi := 5) (n1 := 6) (kc1 := 1) (ks1 := 20) h (by decide +kernel) (by decide +kernel) rfl rfl rfl rfl (fun c1 h1 => ?_)
  refine R_putfFr (j := 0) (len := 0) (pc' := 12) dX0_init_9 l_RX0_11 (isC_mk ⟨by decide, by decide⟩ (by decide +kernel)) fd0_0.1 fd0_0.2.1 fd0_0.2.2.2 rfl rfl fd0_0.2.2.1 (show (5 : Int) < ((6 : Nat) : Int) by decide) rfl ?_
  refine W_put (k := 3) (k1 := 4) h1 (by decide +kernel) (by decide +kernel) rfl (fun c2 h2 => ?_)
  exact R_ret dX0_init_12 rfl (Nat.le_of_ble_eq_true rfl) (Nat.le_of_ble_eq_true rfl) (hQ c2 h2)
set_option maxRecDepth 100000 in
theorem i_X2_7 {K : SK} {d : Nat} {c : ct} {Q : hp → av → Prop} (h : OKc 8 6 c) (hQ : ∀ c', OKc 11 11 c' → Q (11, SH, c') (8, 0)) : CM K (d + 1) mX2_init [(2, 7)] (8, SH, c) Q := by
  refine CM_ofS (by decide) (Nat.le_of_ble_eq_true rfl) [(2, 7)] rfl ?_
  refine R_aload_n (pc' := 1) dX2_init_0 rfl (by decide) rfl ?_
  refine R_objInit (pc' := 4) dX2_init_1 (by decide) (by omega) (by decide) l_RX2_3 w_oi w_oc rfl ?_
  refine R_aload_n (pc' := 5) dX2_init_4 rfl (by decide) rfl ?_
  refine R_bipush (pc' := 7) dX2_init_5 (by decide) rfl ?_
  refine R_newa_int (len := 100) (pc' := 9) dX2_init_7 w_ac_int (by decide) (Nat.le_of_ble_eq_true rfl) (Nat.le_of_ble_eq_true rfl) (okR_mk (n := 8) (by decide)) (okR_mk (n := 8) (by decide)) rfl ?_
  refine W_new (n := 8) (k := 6) (xi := 8) (n1 := 9) (kc1 := 1) (ks1 := 100) h (by decide +kernel) (by decide +kernel) rfl rfl rfl rfl (fun c1 h1 => ?_)
  refine R_putfFr (j := 0) (len := 0) (pc' := 12) dX2_init_9 l_RX2_9 (isC_mk ⟨by decide, by decide⟩ (by decide +kernel)) fd2_0.1 fd2_0.2.1 fd2_0.2.2.2 rfl rfl fd2_0.2.2.1 (show (8 : Int) < ((9 : Nat) : Int) by decide) rfl ?_
  refine W_put (k := 6) (k1 := 7) h1 (by decide +kernel) (by decide +kernel) rfl (fun c2 h2 => ?_)
  refine R_aload_n (pc' := 13) dX2_init_12 rfl (by decide) rfl ?_
  refine R_bipush (pc' := 15) dX2_init_13 (by decide) rfl ?_
  refine R_newa_int (len := 10) (pc' := 17) dX2_init_15 w_ac_int (by decide) (Nat.le_of_ble_eq_true rfl) (Nat.le_of_ble_eq_true rfl) (okR_mk (n := 9) (by decide)) (okR_mk (n := 9) (by decide)) rfl ?_
  refine W_new (n := 9) (k := 7) (xi := 9) (n1 := 10) (kc1 := 2) (ks1 := 110) h2 (by decide +kernel) (by decide +kernel) rfl rfl rfl rfl (fun c3 h3 => ?_)
  refine R_putfFr (j := 2) (len := 0) (pc' := 20) dX2_init_17 l_RX2_15 (isC_mk ⟨by decide, by decide⟩ (by decide +kernel)) fd2_2.1 fd2_2.2.1 fd2_2.2.2.2 rfl rfl fd2_2.2.2.1 (show (9 : Int) < ((10 : Nat) : Int) by decide) rfl ?_
  refine W_put (k := 7) (k1 := 8) h3 (by decide +kernel) (by decide +kernel) rfl (fun c4 h4 => ?_)
  refine R_aload_n (pc' := 21) dX2_init_20 rfl (by decide) rfl ?_
  refine R_bipush (pc' := 23) dX2_init_21 (by decide) rfl ?_
  refine R_newa_int (len := 10) (pc' := 25) dX2_init_23 w_ac_int (by decide) (Nat.le_of_ble_eq_true rfl) (Nat.le_of_ble_eq_true rfl) (okR_mk (n := 10) (by decide)) (okR_mk (n := 10) (by decide)) rfl ?_
  refine W_new (n := 10) (k := 8) (xi := 10) (n1 := 11) (kc1 := 3) (ks1 := 120) h4 (by decide +kernel) (by decide +kernel) rfl rfl rfl rfl (fun c5 h5 => ?_)
  refine R_putfFr (j := 3) (len := 0) (pc' := 28) dX2_init_25 l_RX2_18 (isC_mk ⟨by decide, by decide⟩ (by decide +kernel)) fd2_3.1 fd2_3.2.1 fd2_3.2.2.2 rfl rfl fd2_3.2.2.1 (show (10 : Int) < ((11 : Nat) : Int) by decide) rfl ?_
  refine W_put (k := 8) (k1 := 9) h5 (by decide +kernel) (by decide +kernel) rfl (fun c6 h6 => ?_)
  refine R_aload_n (pc' := 29) dX2_init_28 rfl (by decide) rfl ?_
  refine R_iconst (pc' := 30) dX2_init_29 rfl ?_
  refine R_putfi (j := 5) (len := 0) (pc' := 33) dX2_init_30 l_RX2_21 (isC_mk ⟨by decide, by decide⟩ (by decide +kernel)) fd2_5.1 fd2_5.2.1 fd2_5.2.2.2.1 fd2_5.2.2.2.2 rfl ?_
  refine W_put (k := 9) (k1 := 10) h6 (by decide +kernel) (by decide +kernel) rfl (fun c7 h7 => ?_)
  refine R_aload_n (pc' := 34) dX2_init_33 rfl (by decide) rfl ?_
  refine R_bipush (pc' := 36) dX2_init_34 (by decide) rfl ?_
  refine R_putfi (j := 6) (len := 0) (pc' := 39) dX2_init_36 l_RX2_25 (isC_mk ⟨by decide, by decide⟩ (by decide +kernel)) fd2_6.1 fd2_6.2.1 fd2_6.2.2.2.1 fd2_6.2.2.2.2 rfl ?_
  refine W_put (k := 10) (k1 := 11) h7 (by decide +kernel) (by decide +kernel) rfl (fun c8 h8 => ?_)
  exact R_ret dX2_init_39 rfl (Nat.le_of_ble_eq_true rfl) (Nat.le_of_ble_eq_true rfl) (hQ c8 h8)
set_option maxRecDepth 100000 in
theorem i_X5_12 {K : SK} {d : Nat} {c : ct} {Q : hp → av → Prop} (h : OKc 13 11 c) (hQ : ∀ c', OKc 16 15 c' → Q (16, SH, c') (8, 0)) : CM K (d + 1) mX5_init [(2, 12), (0, 5)] (13, SH, c) Q := by
  refine CM_ofS (by decide) (Nat.le_of_ble_eq_true rfl) [(2, 12), (0, 5)] rfl ?_
  refine R_aload_n (pc' := 1) dX5_init_0 rfl (by decide) rfl ?_
  refine R_objInit (pc' := 4) dX5_init_1 (by decide) (by omega) (by decide) l_RX5_3 w_oi w_oc rfl ?_
  refine R_aload_n (pc' := 5) dX5_init_4 rfl (by decide) rfl ?_
  refine R_iload_n (pc' := 6) dX5_init_5 rfl rfl ?_
  refine R_putfFi (j := 3) (len := 0) (pc' := 9) dX5_init_6 l_RX5_9 (isC_mk ⟨by decide, by decide⟩ (by decide +kernel)) fd5_3.1 fd5_3.2.1 fd5_3.2.2.2.1 rfl rfl fd5_3.2.2.2.2 rfl ?_
  refine W_put (k := 11) (k1 := 12) h (by decide +kernel) (by decide +kernel) rfl (fun c1 h1 => ?_)
  refine R_aload_n (pc' := 10) dX5_init_9 rfl (by decide) rfl ?_
  refine R_iload_n (pc' := 11) dX5_init_10 rfl rfl ?_
  refine R_newa_int (len := 5) (pc' := 13) dX5_init_11 w_ac_int (by decide) (Nat.le_of_ble_eq_true rfl) (Nat.le_of_ble_eq_true rfl) (okR_mk (n := 13) (by decide)) (okR_mk (n := 13) (by decide)) rfl ?_
  refine W_new (n := 13) (k := 12) (xi := 13) (n1 := 14) (kc1 := 1) (ks1 := 5) h1 (by decide +kernel) (by decide +kernel) rfl rfl rfl rfl (fun c2 h2 => ?_)
  refine R_putfFr (j := 0) (len := 0) (pc' := 16) dX5_init_13 l_RX5_15 (isC_mk ⟨by decide, by decide⟩ (by decide +kernel)) fd5_0.1 fd5_0.2.1 fd5_0.2.2.2 rfl rfl fd5_0.2.2.1 (show (13 : Int) < ((14 : Nat) : Int) by decide) rfl ?_
  refine W_put (k := 12) (k1 := 13) h2 (by decide +kernel) (by decide +kernel) rfl (fun c3 h3 => ?_)
  refine R_aload_n (pc' := 17) dX5_init_16 rfl (by decide) rfl ?_
  refine R_iload_n (pc' := 18) dX5_init_17 rfl rfl ?_
  refine R_newa_int (len := 5) (pc' := 20) dX5_init_18 w_ac_int (by decide) (Nat.le_of_ble_eq_true rfl) (Nat.le_of_ble_eq_true rfl) (okR_mk (n := 14) (by decide)) (okR_mk (n := 14) (by decide)) rfl ?_
  refine W_new (n := 14) (k := 13) (xi := 14) (n1 := 15) (kc1 := 2) (ks1 := 10) h3 (by decide +kernel) (by decide +kernel) rfl rfl rfl rfl (fun c4 h4 => ?_)
  refine R_putfFr (j := 1) (len := 0) (pc' := 23) dX5_init_20 l_RX5_19 (isC_mk ⟨by decide, by decide⟩ (by decide +kernel)) fd5_1.1 fd5_1.2.1 fd5_1.2.2.2 rfl rfl fd5_1.2.2.1 (show (14 : Int) < ((15 : Nat) : Int) by decide) rfl ?_
  refine W_put (k := 13) (k1 := 14) h4 (by decide +kernel) (by decide +kernel) rfl (fun c5 h5 => ?_)
  refine R_aload_n (pc' := 24) dX5_init_23 rfl (by decide) rfl ?_
  refine R_iload_n (pc' := 25) dX5_init_24 rfl rfl ?_
  refine R_newa_int (len := 5) (pc' := 27) dX5_init_25 w_ac_int (by decide) (Nat.le_of_ble_eq_true rfl) (Nat.le_of_ble_eq_true rfl) (okR_mk (n := 15) (by decide)) (okR_mk (n := 15) (by decide)) rfl ?_
  refine W_new (n := 15) (k := 14) (xi := 15) (n1 := 16) (kc1 := 3) (ks1 := 15) h5 (by decide +kernel) (by decide +kernel) rfl rfl rfl rfl (fun c6 h6 => ?_)
  refine R_putfFr (j := 2) (len := 0) (pc' := 30) dX5_init_27 l_RX5_22 (isC_mk ⟨by decide, by decide⟩ (by decide +kernel)) fd5_2.1 fd5_2.2.1 fd5_2.2.2.2 rfl rfl fd5_2.2.2.1 (show (15 : Int) < ((16 : Nat) : Int) by decide) rfl ?_
  refine W_put (k := 14) (k1 := 15) h6 (by decide +kernel) (by decide +kernel) rfl (fun c7 h7 => ?_)
  exact R_ret dX5_init_30 rfl (Nat.le_of_ble_eq_true rfl) (Nat.le_of_ble_eq_true rfl) (hQ c7 h7)
set_option maxRecDepth 100000 in
theorem i_X5_16 {K : SK} {d : Nat} {c : ct} {Q : hp → av → Prop} (h : OKc 17 16 c) (hQ : ∀ c', OKc 20 20 c' → Q (20, SH, c') (8, 0)) : CM K (d + 1) mX5_init [(2, 16), (0, 10)] (17, SH, c) Q := by
  refine CM_ofS (by decide) (Nat.le_of_ble_eq_true rfl) [(2, 16), (0, 10)] rfl ?_
  refine R_aload_n (pc' := 1) dX5_init_0 rfl (by decide) rfl ?_
  refine R_objInit (pc' := 4) dX5_init_1 (by decide) (by omega) (by decide) l_RX5_3 w_oi w_oc rfl ?_
  refine R_aload_n (pc' := 5) dX5_init_4 rfl (by decide) rfl ?_
  refine R_iload_n (pc' := 6) dX5_init_5 rfl rfl ?_
  refine R_putfFi (j := 3) (len := 0) (pc' := 9) dX5_init_6 l_RX5_9 (isC_mk ⟨by decide, by decide⟩ (by decide +kernel)) fd5_3.1 fd5_3.2.1 fd5_3.2.2.2.1 rfl rfl fd5_3.2.2.2.2 rfl ?_
  refine W_put (k := 16) (k1 := 17) h (by decide +kernel) (by decide +kernel) rfl (fun c1 h1 => ?_)
  refine R_aload_n (pc' := 10) dX5_init_9 rfl (by decide) rfl ?_
  refine R_iload_n (pc' := 11) dX5_init_10 rfl rfl ?_
  refine R_newa_int (len := 10) (pc' := 13) dX5_init_11 w_ac_int (by decide) (Nat.le_of_ble_eq_true rfl) (Nat.le_of_ble_eq_true rfl) (okR_mk (n := 17) (by decide)) (okR_mk (n := 17) (by decide)) rfl ?_
  refine W_new (n := 17) (k := 17) (xi := 17) (n1 := 18) (kc1 := 1) (ks1 := 10) h1 (by decide +kernel) (by decide +kernel) rfl rfl rfl rfl (fun c2 h2 => ?_)
  refine R_putfFr (j := 0) (len := 0) (pc' := 16) dX5_init_13 l_RX5_15 (isC_mk ⟨by decide, by decide⟩ (by decide +kernel)) fd5_0.1 fd5_0.2.1 fd5_0.2.2.2 rfl rfl fd5_0.2.2.1 (show (17 : Int) < ((18 : Nat) : Int) by decide) rfl ?_
  refine W_put (k := 17) (k1 := 18) h2 (by decide +kernel) (by decide +kernel) rfl (fun c3 h3 => ?_)
  refine R_aload_n (pc' := 17) dX5_init_16 rfl (by decide) rfl ?_
  refine R_iload_n (pc' := 18) dX5_init_17 rfl rfl ?_
  refine R_newa_int (len := 10) (pc' := 20) dX5_init_18 w_ac_int (by decide) (Nat.le_of_ble_eq_true rfl) (Nat.le_of_ble_eq_true rfl) (okR_mk (n := 18) (by decide)) (okR_mk (n := 18) (by decide)) rfl ?_
  refine W_new (n := 18) (k := 18) (xi := 18) (n1 := 19) (kc1 := 2) (ks1 := 20) h3 (by decide +kernel) (by decide +kernel) rfl rfl rfl rfl (fun c4 h4 => ?_)
  refine R_putfFr (j := 1) (len := 0) (pc' := 23) dX5_init_20 l_RX5_19 (isC_mk ⟨by decide, by decide⟩ (by decide +kernel)) fd5_1.1 fd5_1.2.1 fd5_1.2.2.2 rfl rfl fd5_1.2.2.1 (show (18 : Int) < ((19 : Nat) : Int) by decide) rfl ?_
  refine W_put (k := 18) (k1 := 19) h4 (by decide +kernel) (by decide +kernel) rfl (fun c5 h5 => ?_)
  refine R_aload_n (pc' := 24) dX5_init_23 rfl (by decide) rfl ?_
  refine R_iload_n (pc' := 25) dX5_init_24 rfl rfl ?_
  refine R_newa_int (len := 10) (pc' := 27) dX5_init_25 w_ac_int (by decide) (Nat.le_of_ble_eq_true rfl) (Nat.le_of_ble_eq_true rfl) (okR_mk (n := 19) (by decide)) (okR_mk (n := 19) (by decide)) rfl ?_
  refine W_new (n := 19) (k := 19) (xi := 19) (n1 := 20) (kc1 := 3) (ks1 := 30) h5 (by decide +kernel) (by decide +kernel) rfl rfl rfl rfl (fun c6 h6 => ?_)
  refine R_putfFr (j := 2) (len := 0) (pc' := 30) dX5_init_27 l_RX5_22 (isC_mk ⟨by decide, by decide⟩ (by decide +kernel)) fd5_2.1 fd5_2.2.1 fd5_2.2.2.2 rfl rfl fd5_2.2.2.1 (show (19 : Int) < ((20 : Nat) : Int) by decide) rfl ?_
  refine W_put (k := 19) (k1 := 20) h6 (by decide +kernel) (by decide +kernel) rfl (fun c7 h7 => ?_)
  exact R_ret dX5_init_30 rfl (Nat.le_of_ble_eq_true rfl) (Nat.le_of_ble_eq_true rfl) (hQ c7 h7)
set_option maxRecDepth 100000 in
theorem i_X5_20 {K : SK} {d : Nat} {c : ct} {Q : hp → av → Prop} (h : OKc 21 21 c) (hQ : ∀ c', OKc 24 25 c' → Q (24, SH, c') (8, 0)) : CM K (d + 1) mX5_init [(2, 20), (0, 8)] (21, SH, c) Q := by
  refine CM_ofS (by decide) (Nat.le_of_ble_eq_true rfl) [(2, 20), (0, 8)] rfl ?_
  refine R_aload_n (pc' := 1) dX5_init_0 rfl (by decide) rfl ?_
  refine R_objInit (pc' := 4) dX5_init_1 (by decide) (by omega) (by decide) l_RX5_3 w_oi w_oc rfl ?_
  refine R_aload_n (pc' := 5) dX5_init_4 rfl (by decide) rfl ?_
  refine R_iload_n (pc' := 6) dX5_init_5 rfl rfl ?_
  refine R_putfFi (j := 3) (len := 0) (pc' := 9) dX5_init_6 l_RX5_9 (isC_mk ⟨by decide, by decide⟩ (by decide +kernel)) fd5_3.1 fd5_3.2.1 fd5_3.2.2.2.1 rfl rfl fd5_3.2.2.2.2 rfl ?_
  refine W_put (k := 21) (k1 := 22) h (by decide +kernel) (by decide +kernel) rfl (fun c1 h1 => ?_)
  refine R_aload_n (pc' := 10) dX5_init_9 rfl (by decide) rfl ?_
  refine R_iload_n (pc' := 11) dX5_init_10 rfl rfl ?_
  refine R_newa_int (len := 8) (pc' := 13) dX5_init_11 w_ac_int (by decide) (Nat.le_of_ble_eq_true rfl) (Nat.le_of_ble_eq_true rfl) (okR_mk (n := 21) (by decide)) (okR_mk (n := 21) (by decide)) rfl ?_
  refine W_new (n := 21) (k := 22) (xi := 21) (n1 := 22) (kc1 := 1) (ks1 := 8) h1 (by decide +kernel) (by decide +kernel) rfl rfl rfl rfl (fun c2 h2 => ?_)
  refine R_putfFr (j := 0) (len := 0) (pc' := 16) dX5_init_13 l_RX5_15 (isC_mk ⟨by decide, by decide⟩ (by decide +kernel)) fd5_0.1 fd5_0.2.1 fd5_0.2.2.2 rfl rfl fd5_0.2.2.1 (show (21 : Int) < ((22 : Nat) : Int) by decide) rfl ?_
  refine W_put (k := 22) (k1 := 23) h2 (by decide +kernel) (by decide +kernel) rfl (fun c3 h3 => ?_)
  refine R_aload_n (pc' := 17) dX5_init_16 rfl (by decide) rfl ?_
  refine R_iload_n (pc' := 18) dX5_init_17 rfl rfl ?_
  refine R_newa_int (len := 8) (pc' := 20) dX5_init_18 w_ac_int (by decide) (Nat.le_of_ble_eq_true rfl) (Nat.le_of_ble_eq_true rfl) (okR_mk (n := 22) (by decide)) (okR_mk (n := 22) (by decide)) rfl ?_
  refine W_new (n := 22) (k := 23) (xi := 22) (n1 := 23) (kc1 := 2) (ks1 := 16) h3 (by decide +kernel) (by decide +kernel) rfl rfl rfl rfl (fun c4 h4 => ?_)
  refine R_putfFr (j := 1) (len := 0) (pc' := 23) dX5_init_20 l_RX5_19 (isC_mk ⟨by decide, by decide⟩ (by decide +kernel)) fd5_1.1 fd5_1.2.1 fd5_1.2.2.2 rfl rfl fd5_1.2.2.1 (show (22 : Int) < ((23 : Nat) : Int) by decide) rfl ?_
  refine W_put (k := 23) (k1 := 24) h4 (by decide +kernel) (by decide +kernel) rfl (fun c5 h5 => ?_)
  refine R_aload_n (pc' := 24) dX5_init_23 rfl (by decide) rfl ?_
  refine R_iload_n (pc' := 25) dX5_init_24 rfl rfl ?_
  refine R_newa_int (len := 8) (pc' := 27) dX5_init_25 w_ac_int (by decide) (Nat.le_of_ble_eq_true rfl) (Nat.le_of_ble_eq_true rfl) (okR_mk (n := 23) (by decide)) (okR_mk (n := 23) (by decide)) rfl ?_
  refine W_new (n := 23) (k := 24) (xi := 23) (n1 := 24) (kc1 := 3) (ks1 := 24) h5 (by decide +kernel) (by decide +kernel) rfl rfl rfl rfl (fun c6 h6 => ?_)
  refine R_putfFr (j := 2) (len := 0) (pc' := 30) dX5_init_27 l_RX5_22 (isC_mk ⟨by decide, by decide⟩ (by decide +kernel)) fd5_2.1 fd5_2.2.1 fd5_2.2.2.2 rfl rfl fd5_2.2.2.1 (show (23 : Int) < ((24 : Nat) : Int) by decide) rfl ?_
  refine W_put (k := 24) (k1 := 25) h6 (by decide +kernel) (by decide +kernel) rfl (fun c7 h7 => ?_)
  exact R_ret dX5_init_30 rfl (Nat.le_of_ble_eq_true rfl) (Nat.le_of_ble_eq_true rfl) (hQ c7 h7)
set_option maxRecDepth 100000 in
theorem i_X6_24 {K : SK} {d : Nat} {c : ct} {Q : hp → av → Prop} (h : OKc 25 26 c) (hQ : ∀ c', OKc 35 43 c' → Q (35, SH, c') (8, 0)) : CM K (d + 1) mX6_init [(2, 24), (2, 7)] (25, SH, c) Q := by
  refine CM_ofS (by decide) (Nat.le_of_ble_eq_true rfl) [(2, 24), (2, 7), (9, 0)] rfl ?_
  refine R_aload_n (pc' := 1) dX6_init_0 rfl (by decide) rfl ?_
  refine R_objInit (pc' := 4) dX6_init_1 (by decide) (by omega) (by decide) l_RX6_3 w_oi w_oc rfl ?_
  refine R_aload_n (pc' := 5) dX6_init_4 rfl (by decide) rfl ?_
  refine R_bipush (pc' := 7) dX6_init_5 (by decide) rfl ?_
  refine R_newa_int (len := 6) (pc' := 9) dX6_init_7 w_ac_int (by decide) (Nat.le_of_ble_eq_true rfl) (Nat.le_of_ble_eq_true rfl) (okR_mk (n := 25) (by decide)) (okR_mk (n := 25) (by decide)) rfl ?_
  refine W_new (n := 25) (k := 26) (xi := 25) (n1 := 26) (kc1 := 1) (ks1 := 6) h (by decide +kernel) (by decide +kernel) rfl rfl rfl rfl (fun c1 h1 => ?_)
  refine R_putfFr (j := 0) (len := 0) (pc' := 12) dX6_init_9 l_RX6_9 (isC_mk ⟨by decide, by decide⟩ (by decide +kernel)) fd6_0.1 fd6_0.2.1 fd6_0.2.2.2 rfl rfl fd6_0.2.2.1 (show (25 : Int) < ((26 : Nat) : Int) by decide) rfl ?_
  refine W_put (k := 26) (k1 := 27) h1 (by decide +kernel) (by decide +kernel) rfl (fun c2 h2 => ?_)
  refine R_aload_n (pc' := 13) dX6_init_12 rfl (by decide) rfl ?_
  refine R_bipush (pc' := 15) dX6_init_13 (by decide) rfl ?_
  refine R_newa_int (len := 6) (pc' := 17) dX6_init_15 w_ac_int (by decide) (Nat.le_of_ble_eq_true rfl) (Nat.le_of_ble_eq_true rfl) (okR_mk (n := 26) (by decide)) (okR_mk (n := 26) (by decide)) rfl ?_
  refine W_new (n := 26) (k := 27) (xi := 26) (n1 := 27) (kc1 := 2) (ks1 := 12) h2 (by decide +kernel) (by decide +kernel) rfl rfl rfl rfl (fun c3 h3 => ?_)
  refine R_putfFr (j := 1) (len := 0) (pc' := 20) dX6_init_17 l_RX6_15 (isC_mk ⟨by decide, by decide⟩ (by decide +kernel)) fd6_1.1 fd6_1.2.1 fd6_1.2.2.2 rfl rfl fd6_1.2.2.1 (show (26 : Int) < ((27 : Nat) : Int) by decide) rfl ?_
  refine W_put (k := 27) (k1 := 28) h3 (by decide +kernel) (by decide +kernel) rfl (fun c4 h4 => ?_)
  refine R_aload_n (pc' := 21) dX6_init_20 rfl (by decide) rfl ?_
  refine R_bipush (pc' := 23) dX6_init_21 (by decide) rfl ?_
  refine R_newa_int (len := 6) (pc' := 25) dX6_init_23 w_ac_int (by decide) (Nat.le_of_ble_eq_true rfl) (Nat.le_of_ble_eq_true rfl) (okR_mk (n := 27) (by decide)) (okR_mk (n := 27) (by decide)) rfl ?_
  refine W_new (n := 27) (k := 28) (xi := 27) (n1 := 28) (kc1 := 3) (ks1 := 18) h4 (by decide +kernel) (by decide +kernel) rfl rfl rfl rfl (fun c5 h5 => ?_)
  refine R_putfFr (j := 2) (len := 0) (pc' := 28) dX6_init_25 l_RX6_18 (isC_mk ⟨by decide, by decide⟩ (by decide +kernel)) fd6_2.1 fd6_2.2.1 fd6_2.2.2.2 rfl rfl fd6_2.2.2.1 (show (27 : Int) < ((28 : Nat) : Int) by decide) rfl ?_
  refine W_put (k := 28) (k1 := 29) h5 (by decide +kernel) (by decide +kernel) rfl (fun c6 h6 => ?_)
  refine R_aload_n (pc' := 29) dX6_init_28 rfl (by decide) rfl ?_
  refine R_bipush (pc' := 31) dX6_init_29 (by decide) rfl ?_
  refine R_newa_int (len := 6) (pc' := 33) dX6_init_31 w_ac_int (by decide) (Nat.le_of_ble_eq_true rfl) (Nat.le_of_ble_eq_true rfl) (okR_mk (n := 28) (by decide)) (okR_mk (n := 28) (by decide)) rfl ?_
  refine W_new (n := 28) (k := 29) (xi := 28) (n1 := 29) (kc1 := 4) (ks1 := 24) h6 (by decide +kernel) (by decide +kernel) rfl rfl rfl rfl (fun c7 h7 => ?_)
  refine R_putfFr (j := 3) (len := 0) (pc' := 36) dX6_init_33 l_RX6_21 (isC_mk ⟨by decide, by decide⟩ (by decide +kernel)) fd6_3.1 fd6_3.2.1 fd6_3.2.2.2 rfl rfl fd6_3.2.2.1 (show (28 : Int) < ((29 : Nat) : Int) by decide) rfl ?_
  refine W_put (k := 29) (k1 := 30) h7 (by decide +kernel) (by decide +kernel) rfl (fun c8 h8 => ?_)
  refine R_aload_n (pc' := 37) dX6_init_36 rfl (by decide) rfl ?_
  refine R_bipush (pc' := 39) dX6_init_37 (by decide) rfl ?_
  refine R_newa_boolean (len := 6) (pc' := 41) dX6_init_39 w_ac_boolean (by decide) (Nat.le_of_ble_eq_true rfl) (Nat.le_of_ble_eq_true rfl) (okR_mk (n := 29) (by decide)) (okR_mk (n := 29) (by decide)) rfl ?_
  refine W_new (n := 29) (k := 30) (xi := 29) (n1 := 30) (kc1 := 5) (ks1 := 30) h8 (by decide +kernel) (by decide +kernel) rfl rfl rfl rfl (fun c9 h9 => ?_)
  refine R_putfFr (j := 4) (len := 0) (pc' := 44) dX6_init_41 l_RX6_24 (isC_mk ⟨by decide, by decide⟩ (by decide +kernel)) fd6_4.1 fd6_4.2.1 fd6_4.2.2.2 rfl rfl fd6_4.2.2.1 (show (29 : Int) < ((30 : Nat) : Int) by decide) rfl ?_
  refine W_put (k := 30) (k1 := 31) h9 (by decide +kernel) (by decide +kernel) rfl (fun c10 h10 => ?_)
  refine R_aload_n (pc' := 45) dX6_init_44 rfl (by decide) rfl ?_
  refine R_bipush (pc' := 47) dX6_init_45 (by decide) rfl ?_
  refine R_newa_boolean (len := 6) (pc' := 49) dX6_init_47 w_ac_boolean (by decide) (Nat.le_of_ble_eq_true rfl) (Nat.le_of_ble_eq_true rfl) (okR_mk (n := 30) (by decide)) (okR_mk (n := 30) (by decide)) rfl ?_
  refine W_new (n := 30) (k := 31) (xi := 30) (n1 := 31) (kc1 := 6) (ks1 := 36) h10 (by decide +kernel) (by decide +kernel) rfl rfl rfl rfl (fun c11 h11 => ?_)
  refine R_putfFr (j := 5) (len := 0) (pc' := 52) dX6_init_49 l_RX6_28 (isC_mk ⟨by decide, by decide⟩ (by decide +kernel)) fd6_5.1 fd6_5.2.1 fd6_5.2.2.2 rfl rfl fd6_5.2.2.1 (show (30 : Int) < ((31 : Nat) : Int) by decide) rfl ?_
  refine W_put (k := 31) (k1 := 32) h11 (by decide +kernel) (by decide +kernel) rfl (fun c12 h12 => ?_)
  refine R_aload_n (pc' := 53) dX6_init_52 rfl (by decide) rfl ?_
  refine R_bipush (pc' := 55) dX6_init_53 (by decide) rfl ?_
  refine R_newa_int (len := 24) (pc' := 57) dX6_init_55 w_ac_int (by decide) (Nat.le_of_ble_eq_true rfl) (Nat.le_of_ble_eq_true rfl) (okR_mk (n := 31) (by decide)) (okR_mk (n := 31) (by decide)) rfl ?_
  refine W_new (n := 31) (k := 32) (xi := 31) (n1 := 32) (kc1 := 7) (ks1 := 60) h12 (by decide +kernel) (by decide +kernel) rfl rfl rfl rfl (fun c13 h13 => ?_)
  refine R_putfFr (j := 6) (len := 0) (pc' := 60) dX6_init_57 l_RX6_31 (isC_mk ⟨by decide, by decide⟩ (by decide +kernel)) fd6_6.1 fd6_6.2.1 fd6_6.2.2.2 rfl rfl fd6_6.2.2.1 (show (31 : Int) < ((32 : Nat) : Int) by decide) rfl ?_
  refine W_put (k := 32) (k1 := 33) h13 (by decide +kernel) (by decide +kernel) rfl (fun c14 h14 => ?_)
  refine R_aload_n (pc' := 61) dX6_init_60 rfl (by decide) rfl ?_
  refine R_bipush (pc' := 63) dX6_init_61 (by decide) rfl ?_
  refine R_newa_int (len := 6) (pc' := 65) dX6_init_63 w_ac_int (by decide) (Nat.le_of_ble_eq_true rfl) (Nat.le_of_ble_eq_true rfl) (okR_mk (n := 32) (by decide)) (okR_mk (n := 32) (by decide)) rfl ?_
  refine W_new (n := 32) (k := 33) (xi := 32) (n1 := 33) (kc1 := 8) (ks1 := 66) h14 (by decide +kernel) (by decide +kernel) rfl rfl rfl rfl (fun c15 h15 => ?_)
  refine R_putfFr (j := 7) (len := 0) (pc' := 68) dX6_init_65 l_RX6_34 (isC_mk ⟨by decide, by decide⟩ (by decide +kernel)) fd6_7.1 fd6_7.2.1 fd6_7.2.2.2 rfl rfl fd6_7.2.2.1 (show (32 : Int) < ((33 : Nat) : Int) by decide) rfl ?_
  refine W_put (k := 33) (k1 := 34) h15 (by decide +kernel) (by decide +kernel) rfl (fun c16 h16 => ?_)
  refine R_aload_n (pc' := 69) dX6_init_68 rfl (by decide) rfl ?_
  refine R_bipush (pc' := 71) dX6_init_69 (by decide) rfl ?_
  refine R_newa_int (len := 36) (pc' := 73) dX6_init_71 w_ac_int (by decide) (Nat.le_of_ble_eq_true rfl) (Nat.le_of_ble_eq_true rfl) (okR_mk (n := 33) (by decide)) (okR_mk (n := 33) (by decide)) rfl ?_
  refine W_new (n := 33) (k := 34) (xi := 33) (n1 := 34) (kc1 := 9) (ks1 := 102) h16 (by decide +kernel) (by decide +kernel) rfl rfl rfl rfl (fun c17 h17 => ?_)
  refine R_putfFr (j := 8) (len := 0) (pc' := 76) dX6_init_73 l_RX6_37 (isC_mk ⟨by decide, by decide⟩ (by decide +kernel)) fd6_8.1 fd6_8.2.1 fd6_8.2.2.2 rfl rfl fd6_8.2.2.1 (show (33 : Int) < ((34 : Nat) : Int) by decide) rfl ?_
  refine W_put (k := 34) (k1 := 35) h17 (by decide +kernel) (by decide +kernel) rfl (fun c18 h18 => ?_)
  refine R_aload_n (pc' := 77) dX6_init_76 rfl (by decide) rfl ?_
  refine R_bipush (pc' := 79) dX6_init_77 (by decide) rfl ?_
  refine R_newa_int (len := 6) (pc' := 81) dX6_init_79 w_ac_int (by decide) (Nat.le_of_ble_eq_true rfl) (Nat.le_of_ble_eq_true rfl) (okR_mk (n := 34) (by decide)) (okR_mk (n := 34) (by decide)) rfl ?_
  refine W_new (n := 34) (k := 35) (xi := 34) (n1 := 35) (kc1 := 10) (ks1 := 108) h18 (by decide +kernel) (by decide +kernel) rfl rfl rfl rfl (fun c19 h19 => ?_)
  refine R_putfFr (j := 9) (len := 0) (pc' := 84) dX6_init_81 l_RX6_42 (isC_mk ⟨by decide, by decide⟩ (by decide +kernel)) fd6_9.1 fd6_9.2.1 fd6_9.2.2.2 rfl rfl fd6_9.2.2.1 (show (34 : Int) < ((35 : Nat) : Int) by decide) rfl ?_
  refine W_put (k := 35) (k1 := 36) h19 (by decide +kernel) (by decide +kernel) rfl (fun c20 h20 => ?_)
  refine R_aload_n (pc' := 85) dX6_init_84 rfl (by decide) rfl ?_
  refine R_aload_n (pc' := 86) dX6_init_85 rfl (by decide) rfl ?_
  refine R_putfr (j := 13) (len := 0) (pc' := 89) dX6_init_86 l_RX6_45 (isC_mk ⟨by decide, by decide⟩ (by decide +kernel)) fd6_13.1 fd6_13.2.1 fd6_13.2.2.2 fd6_13.2.2.1 (show (7 : Int) < ((35 : Nat) : Int) by decide) rfl ?_
  refine W_put (k := 36) (k1 := 37) h20 (by decide +kernel) (by decide +kernel) rfl (fun c21 h21 => ?_)
  refine R_iconst (pc' := 90) dX6_init_89 rfl ?_
  refine R_istore_n (L' := [(2, 24), (2, 7), (0, 0)]) (pc' := 91) dX6_init_90 (by decide) rfl rfl rfl ?_
  refine R_iload_n (pc' := 92) dX6_init_91 rfl rfl ?_
  refine R_bipush (pc' := 94) dX6_init_92 (by decide) rfl ?_
  refine R_icmp_ge (tgt := 110) (pc' := 97) dX6_init_94 (by decide) (ir_l (by decide) (by decide)) (ir_l (by decide) (by decide)) rfl (fun q => absurd q (by decide)) (fun _ => ?_)
  refine R_aload_n (pc' := 98) dX6_init_97 rfl (by decide) rfl ?_
  refine R_getfr (j := 7) (len := 0) (pc' := 101) dX6_init_98 l_RX6_34 (isC_mk ⟨by decide, by decide⟩ (by decide +kernel)) fd6_7.1 fd6_7.2.1 fd6_7.2.2.1 rfl ?_
  refine W_get (k := 37) (v := 32) h21 ⟨by decide, by decide, by decide⟩ (by decide +kernel) (by decide +kernel) ?_
  refine R_iload_n (pc' := 102) dX6_init_101 rfl rfl ?_
  refine R_iconst (pc' := 103) dX6_init_102 rfl ?_
  refine R_iastore (pc' := 104) dX6_init_103 (len := 6) (isC_mk ⟨by decide, by decide⟩ (by decide +kernel)) (by decide) (by decide) (by decide) rfl ?_
  refine W_put (k := 37) (k1 := 38) h21 (by decide +kernel) (by decide +kernel) rfl (fun c22 h22 => ?_)
  refine R_iinc (L' := [(2, 24), (2, 7), (0, 1)]) (pc' := 107) dX6_init_104 rfl (by decide) rfl rfl rfl ?_
  refine R_goto (tgt := 91) dX6_init_107 (by decide) ?_
  refine R_iload_n (pc' := 92) dX6_init_91 rfl rfl ?_
  refine R_bipush (pc' := 94) dX6_init_92 (by decide) rfl ?_
  refine R_icmp_ge (tgt := 110) (pc' := 97) dX6_init_94 (by decide) (ir_l (by decide) (by decide)) (ir_l (by decide) (by decide)) rfl (fun q => absurd q (by decide)) (fun _ => ?_)
  refine R_aload_n (pc' := 98) dX6_init_97 rfl (by decide) rfl ?_
  refine R_getfr (j := 7) (len := 0) (pc' := 101) dX6_init_98 l_RX6_34 (isC_mk ⟨by decide, by decide⟩ (by decide +kernel)) fd6_7.1 fd6_7.2.1 fd6_7.2.2.1 rfl ?_
  refine W_get (k := 38) (v := 32) h22 ⟨by decide, by decide, by decide⟩ (by decide +kernel) (by decide +kernel) ?_
  refine R_iload_n (pc' := 102) dX6_init_101 rfl rfl ?_
  refine R_iconst (pc' := 103) dX6_init_102 rfl ?_
  refine R_iastore (pc' := 104) dX6_init_103 (len := 6) (isC_mk ⟨by decide, by decide⟩ (by decide +kernel)) (by decide) (by decide) (by decide) rfl ?_
  refine W_put (k := 38) (k1 := 39) h22 (by decide +kernel) (by decide +kernel) rfl (fun c23 h23 => ?_)
  refine R_iinc (L' := [(2, 24), (2, 7), (0, 2)]) (pc' := 107) dX6_init_104 rfl (by decide) rfl rfl rfl ?_
  refine R_goto (tgt := 91) dX6_init_107 (by decide) ?_
  refine R_iload_n (pc' := 92) dX6_init_91 rfl rfl ?_
  refine R_bipush (pc' := 94) dX6_init_92 (by decide) rfl ?_
  refine R_icmp_ge (tgt := 110) (pc' := 97) dX6_init_94 (by decide) (ir_l (by decide) (by decide)) (ir_l (by decide) (by decide)) rfl (fun q => absurd q (by decide)) (fun _ => ?_)
  refine R_aload_n (pc' := 98) dX6_init_97 rfl (by decide) rfl ?_
  refine R_getfr (j := 7) (len := 0) (pc' := 101) dX6_init_98 l_RX6_34 (isC_mk ⟨by decide, by decide⟩ (by decide +kernel)) fd6_7.1 fd6_7.2.1 fd6_7.2.2.1 rfl ?_
  refine W_get (k := 39) (v := 32) h23 ⟨by decide, by decide, by decide⟩ (by decide +kernel) (by decide +kernel) ?_
  refine R_iload_n (pc' := 102) dX6_init_101 rfl rfl ?_
  refine R_iconst (pc' := 103) dX6_init_102 rfl ?_
  refine R_iastore (pc' := 104) dX6_init_103 (len := 6) (isC_mk ⟨by decide, by decide⟩ (by decide +kernel)) (by decide) (by decide) (by decide) rfl ?_
  refine W_put (k := 39) (k1 := 40) h23 (by decide +kernel) (by decide +kernel) rfl (fun c24 h24 => ?_)
  refine R_iinc (L' := [(2, 24), (2, 7), (0, 3)]) (pc' := 107) dX6_init_104 rfl (by decide) rfl rfl rfl ?_
  refine R_goto (tgt := 91) dX6_init_107 (by decide) ?_
  refine R_iload_n (pc' := 92) dX6_init_91 rfl rfl ?_
  refine R_bipush (pc' := 94) dX6_init_92 (by decide) rfl ?_
  refine R_icmp_ge (tgt := 110) (pc' := 97) dX6_init_94 (by decide) (ir_l (by decide) (by decide)) (ir_l (by decide) (by decide)) rfl (fun q => absurd q (by decide)) (fun _ => ?_)
  refine R_aload_n (pc' := 98) dX6_init_97 rfl (by decide) rfl ?_
  refine R_getfr (j := 7) (len := 0) (pc' := 101) dX6_init_98 l_RX6_34 (isC_mk ⟨by decide, by decide⟩ (by decide +kernel)) fd6_7.1 fd6_7.2.1 fd6_7.2.2.1 rfl ?_
  refine W_get (k := 40) (v := 32) h24 ⟨by decide, by decide, by decide⟩ (by decide +kernel) (by decide +kernel) ?_
  refine R_iload_n (pc' := 102) dX6_init_101 rfl rfl ?_
  refine R_iconst (pc' := 103) dX6_init_102 rfl ?_
  refine R_iastore (pc' := 104) dX6_init_103 (len := 6) (isC_mk ⟨by decide, by decide⟩ (by decide +kernel)) (by decide) (by decide) (by decide) rfl ?_
  refine W_put (k := 40) (k1 := 41) h24 (by decide +kernel) (by decide +kernel) rfl (fun c25 h25 => ?_)
  refine R_iinc (L' := [(2, 24), (2, 7), (0, 4)]) (pc' := 107) dX6_init_104 rfl (by decide) rfl rfl rfl ?_
  refine R_goto (tgt := 91) dX6_init_107 (by decide) ?_
  refine R_iload_n (pc' := 92) dX6_init_91 rfl rfl ?_
  refine R_bipush (pc' := 94) dX6_init_92 (by decide) rfl ?_
  refine R_icmp_ge (tgt := 110) (pc' := 97) dX6_init_94 (by decide) (ir_l (by decide) (by decide)) (ir_l (by decide) (by decide)) rfl (fun q => absurd q (by decide)) (fun _ => ?_)
  refine R_aload_n (pc' := 98) dX6_init_97 rfl (by decide) rfl ?_
  refine R_getfr (j := 7) (len := 0) (pc' := 101) dX6_init_98 l_RX6_34 (isC_mk ⟨by decide, by decide⟩ (by decide +kernel)) fd6_7.1 fd6_7.2.1 fd6_7.2.2.1 rfl ?_
  refine W_get (k := 41) (v := 32) h25 ⟨by decide, by decide, by decide⟩ (by decide +kernel) (by decide +kernel) ?_
  refine R_iload_n (pc' := 102) dX6_init_101 rfl rfl ?_
  refine R_iconst (pc' := 103) dX6_init_102 rfl ?_
  refine R_iastore (pc' := 104) dX6_init_103 (len := 6) (isC_mk ⟨by decide, by decide⟩ (by decide +kernel)) (by decide) (by decide) (by decide) rfl ?_
  refine W_put (k := 41) (k1 := 42) h25 (by decide +kernel) (by decide +kernel) rfl (fun c26 h26 => ?_)
  refine R_iinc (L' := [(2, 24), (2, 7), (0, 5)]) (pc' := 107) dX6_init_104 rfl (by decide) rfl rfl rfl ?_
  refine R_goto (tgt := 91) dX6_init_107 (by decide) ?_
  refine R_iload_n (pc' := 92) dX6_init_91 rfl rfl ?_
  refine R_bipush (pc' := 94) dX6_init_92 (by decide) rfl ?_
  refine R_icmp_ge (tgt := 110) (pc' := 97) dX6_init_94 (by decide) (ir_l (by decide) (by decide)) (ir_l (by decide) (by decide)) rfl (fun q => absurd q (by decide)) (fun _ => ?_)
  refine R_aload_n (pc' := 98) dX6_init_97 rfl (by decide) rfl ?_
  refine R_getfr (j := 7) (len := 0) (pc' := 101) dX6_init_98 l_RX6_34 (isC_mk ⟨by decide, by decide⟩ (by decide +kernel)) fd6_7.1 fd6_7.2.1 fd6_7.2.2.1 rfl ?_
  refine W_get (k := 42) (v := 32) h26 ⟨by decide, by decide, by decide⟩ (by decide +kernel) (by decide +kernel) ?_
  refine R_iload_n (pc' := 102) dX6_init_101 rfl rfl ?_
  refine R_iconst (pc' := 103) dX6_init_102 rfl ?_
  refine R_iastore (pc' := 104) dX6_init_103 (len := 6) (isC_mk ⟨by decide, by decide⟩ (by decide +kernel)) (by decide) (by decide) (by decide) rfl ?_
  refine W_put (k := 42) (k1 := 43) h26 (by decide +kernel) (by decide +kernel) rfl (fun c27 h27 => ?_)
  refine R_iinc (L' := [(2, 24), (2, 7), (0, 6)]) (pc' := 107) dX6_init_104 rfl (by decide) rfl rfl rfl ?_
  refine R_goto (tgt := 91) dX6_init_107 (by decide) ?_
  refine R_iload_n (pc' := 92) dX6_init_91 rfl rfl ?_
  refine R_bipush (pc' := 94) dX6_init_92 (by decide) rfl ?_
  refine R_icmp_ge (tgt := 110) (pc' := 97) dX6_init_94 (by decide) (ir_l (by decide) (by decide)) (ir_l (by decide) (by decide)) rfl (fun _ => ?_) (fun q => absurd (by decide) q)
  exact R_ret dX6_init_110 rfl (Nat.le_of_ble_eq_true rfl) (Nat.le_of_ble_eq_true rfl) (hQ c27 h27)
set_option maxRecDepth 100000 in
theorem i_X1_11 {K : SK} {d : Nat} {c : ct} {Q : hp → av → Prop} (h : OKc 12 11 c) (hQ : ∀ c', OKc 35 44 c' → Q (35, SH, c') (8, 0)) : CM K (d + 2) mX1_init [(2, 11), (2, 7)] (12, SH, c) Q := by
  refine CM_ofS (by decide) (Nat.le_of_ble_eq_true rfl) [(2, 11), (2, 7)] rfl ?_
  refine R_aload_n (pc' := 1) dX1_init_0 rfl (by decide) rfl ?_
  refine R_objInit (pc' := 4) dX1_init_1 (by decide) (by omega) (by decide) l_RX1_3 w_oi w_oc rfl ?_
  refine R_aload_n (pc' := 5) dX1_init_4 rfl (by decide) rfl ?_
  refine R_new (pc' := 8) dX1_init_5 (by decide) l_RX1_9 w_ins_5 w_ini_LeavesRoom_Rows (Nat.le_of_ble_eq_true rfl) (Nat.le_of_ble_eq_true rfl) (okR_mk (n := 12) (by decide)) (okR_mk (n := 12) (by decide)) rfl ?_
  refine W_new (n := 12) (k := 11) (xi := 12) (n1 := 13) (kc1 := 1) (ks1 := 5) h (by decide +kernel) (by decide +kernel) rfl rfl rfl rfl (fun c1 h1 => ?_)
  refine R_dup (pc' := 9) dX1_init_8 (by simp) rfl ?_
  refine R_iconst (pc' := 10) dX1_init_9 rfl ?_
  refine R_callI (vs := [(0, 5)]) (st := [(2, 12), (2, 11)]) (x := 12) (pc' := 13) dX1_init_10 l_RX1_11 (by decide) rfl (by decide) (Nat.le_of_ble_eq_true rfl) (Nat.le_of_ble_eq_true rfl) (Or.inr ⟨(okR_mk (n := 13) (by decide)), (okR_mk (n := 13) (by decide))⟩) rfl ?_
  refine i_X5_12 h1 (fun c2 h2 => ?_)
  show WP K _ mX1_init 4 35 13 [(2, 11), (2, 7)] [(2, 12), (2, 11)] (16, SH, c2) Q
  refine R_putfFr (j := 1) (len := 0) (pc' := 16) dX1_init_13 l_RX1_14 (isC_mk ⟨by decide, by decide⟩ (by decide +kernel)) fd1_1.1 fd1_1.2.1 fd1_1.2.2.2 rfl rfl fd1_1.2.2.1 (show (12 : Int) < ((16 : Nat) : Int) by decide) rfl ?_
  refine W_put (k := 15) (k1 := 16) h2 (by decide +kernel) (by decide +kernel) rfl (fun c3 h3 => ?_)
  refine R_aload_n (pc' := 17) dX1_init_16 rfl (by decide) rfl ?_
  refine R_new (pc' := 20) dX1_init_17 (by decide) l_RX1_9 w_ins_5 w_ini_LeavesRoom_Rows (Nat.le_of_ble_eq_true rfl) (Nat.le_of_ble_eq_true rfl) (okR_mk (n := 16) (by decide)) (okR_mk (n := 16) (by decide)) rfl ?_
  refine W_new (n := 16) (k := 16) (xi := 16) (n1 := 17) (kc1 := 5) (ks1 := 40) h3 (by decide +kernel) (by decide +kernel) rfl rfl rfl rfl (fun c4 h4 => ?_)
  refine R_dup (pc' := 21) dX1_init_20 (by simp) rfl ?_
  refine R_bipush (pc' := 23) dX1_init_21 (by decide) rfl ?_
  refine R_callI (vs := [(0, 10)]) (st := [(2, 16), (2, 11)]) (x := 16) (pc' := 26) dX1_init_23 l_RX1_11 (by decide) rfl (by decide) (Nat.le_of_ble_eq_true rfl) (Nat.le_of_ble_eq_true rfl) (Or.inr ⟨(okR_mk (n := 17) (by decide)), (okR_mk (n := 17) (by decide))⟩) rfl ?_
  refine i_X5_16 h4 (fun c5 h5 => ?_)
  show WP K _ mX1_init 8 70 26 [(2, 11), (2, 7)] [(2, 16), (2, 11)] (20, SH, c5) Q
  refine R_putfFr (j := 2) (len := 0) (pc' := 29) dX1_init_26 l_RX1_20 (isC_mk ⟨by decide, by decide⟩ (by decide +kernel)) fd1_2.1 fd1_2.2.1 fd1_2.2.2.2 rfl rfl fd1_2.2.2.1 (show (16 : Int) < ((20 : Nat) : Int) by decide) rfl ?_
  refine W_put (k := 20) (k1 := 21) h5 (by decide +kernel) (by decide +kernel) rfl (fun c6 h6 => ?_)
  refine R_aload_n (pc' := 30) dX1_init_29 rfl (by decide) rfl ?_
  refine R_new (pc' := 33) dX1_init_30 (by decide) l_RX1_9 w_ins_5 w_ini_LeavesRoom_Rows (Nat.le_of_ble_eq_true rfl) (Nat.le_of_ble_eq_true rfl) (okR_mk (n := 20) (by decide)) (okR_mk (n := 20) (by decide)) rfl ?_
  refine W_new (n := 20) (k := 21) (xi := 20) (n1 := 21) (kc1 := 9) (ks1 := 75) h6 (by decide +kernel) (by decide +kernel) rfl rfl rfl rfl (fun c7 h7 => ?_)
  refine R_dup (pc' := 34) dX1_init_33 (by simp) rfl ?_
  refine R_bipush (pc' := 36) dX1_init_34 (by decide) rfl ?_
  refine R_callI (vs := [(0, 8)]) (st := [(2, 20), (2, 11)]) (x := 20) (pc' := 39) dX1_init_36 l_RX1_11 (by decide) rfl (by decide) (Nat.le_of_ble_eq_true rfl) (Nat.le_of_ble_eq_true rfl) (Or.inr ⟨(okR_mk (n := 21) (by decide)), (okR_mk (n := 21) (by decide))⟩) rfl ?_
  refine i_X5_20 h7 (fun c8 h8 => ?_)
  show WP K _ mX1_init 12 105 39 [(2, 11), (2, 7)] [(2, 20), (2, 11)] (24, SH, c8) Q
  refine R_putfFr (j := 3) (len := 0) (pc' := 42) dX1_init_39 l_RX1_23 (isC_mk ⟨by decide, by decide⟩ (by decide +kernel)) fd1_3.1 fd1_3.2.1 fd1_3.2.2.2 rfl rfl fd1_3.2.2.1 (show (20 : Int) < ((24 : Nat) : Int) by decide) rfl ?_
  refine W_put (k := 25) (k1 := 26) h8 (by decide +kernel) (by decide +kernel) rfl (fun c9 h9 => ?_)
  refine R_aload_n (pc' := 43) dX1_init_42 rfl (by decide) rfl ?_
  refine R_new (pc' := 46) dX1_init_43 (by decide) l_RX1_26 w_ins_6 w_ini_LeavesRoom_Table (Nat.le_of_ble_eq_true rfl) (Nat.le_of_ble_eq_true rfl) (okR_mk (n := 24) (by decide)) (okR_mk (n := 24) (by decide)) rfl ?_
  refine W_new (n := 24) (k := 26) (xi := 24) (n1 := 25) (kc1 := 13) (ks1 := 119) h9 (by decide +kernel) (by decide +kernel) rfl rfl rfl rfl (fun c10 h10 => ?_)
  refine R_dup (pc' := 47) dX1_init_46 (by simp) rfl ?_
  refine R_aload_n (pc' := 48) dX1_init_47 rfl (by decide) rfl ?_
  refine R_callI (vs := [(2, 7)]) (st := [(2, 24), (2, 11)]) (x := 24) (pc' := 51) dX1_init_48 l_RX1_28 (by decide) rfl (by decide) (Nat.le_of_ble_eq_true rfl) (Nat.le_of_ble_eq_true rfl) (Or.inr ⟨(okR_mk (n := 25) (by decide)), (okR_mk (n := 25) (by decide))⟩) rfl ?_
  refine i_X6_24 h10 (fun c11 h11 => ?_)
  show WP K _ mX1_init 23 233 51 [(2, 11), (2, 7)] [(2, 24), (2, 11)] (35, SH, c11) Q
  refine R_putfFr (j := 0) (len := 0) (pc' := 54) dX1_init_51 l_RX1_31 (isC_mk ⟨by decide, by decide⟩ (by decide +kernel)) fd1_0.1 fd1_0.2.1 fd1_0.2.2.2 rfl rfl fd1_0.2.2.1 (show (24 : Int) < ((35 : Nat) : Int) by decide) rfl ?_
  refine W_put (k := 43) (k1 := 44) h11 (by decide +kernel) (by decide +kernel) rfl (fun c12 h12 => ?_)
  exact R_ret dX1_init_54 rfl (Nat.le_of_ble_eq_true rfl) (Nat.le_of_ble_eq_true rfl) (hQ c12 h12)
set_option maxRecDepth 100000 in
theorem i_X5_36 {K : SK} {d : Nat} {c : ct} {Q : hp → av → Prop} (h : OKc 37 45 c) (hQ : ∀ c', OKc 40 49 c' → Q (40, SH, c') (8, 0)) : CM K (d + 1) mX5_init [(2, 36), (0, 5)] (37, SH, c) Q := by
  refine CM_ofS (by decide) (Nat.le_of_ble_eq_true rfl) [(2, 36), (0, 5)] rfl ?_
  refine R_aload_n (pc' := 1) dX5_init_0 rfl (by decide) rfl ?_
  refine R_objInit (pc' := 4) dX5_init_1 (by decide) (by omega) (by decide) l_RX5_3 w_oi w_oc rfl ?_
  refine R_aload_n (pc' := 5) dX5_init_4 rfl (by decide) rfl ?_
  refine R_iload_n (pc' := 6) dX5_init_5 rfl rfl ?_
  refine R_putfFi (j := 3) (len := 0) (pc' := 9) dX5_init_6 l_RX5_9 (isC_mk ⟨by decide, by decide⟩ (by decide +kernel)) fd5_3.1 fd5_3.2.1 fd5_3.2.2.2.1 rfl rfl fd5_3.2.2.2.2 rfl ?_
  refine W_put (k := 45) (k1 := 46) h (by decide +kernel) (by decide +kernel) rfl (fun c1 h1 => ?_)
  refine R_aload_n (pc' := 10) dX5_init_9 rfl (by decide) rfl ?_
  refine R_iload_n (pc' := 11) dX5_init_10 rfl rfl ?_
  refine R_newa_int (len := 5) (pc' := 13) dX5_init_11 w_ac_int (by decide) (Nat.le_of_ble_eq_true rfl) (Nat.le_of_ble_eq_true rfl) (okR_mk (n := 37) (by decide)) (okR_mk (n := 37) (by decide)) rfl ?_
  refine W_new (n := 37) (k := 46) (xi := 37) (n1 := 38) (kc1 := 1) (ks1 := 5) h1 (by decide +kernel) (by decide +kernel) rfl rfl rfl rfl (fun c2 h2 => ?_)
  refine R_putfFr (j := 0) (len := 0) (pc' := 16) dX5_init_13 l_RX5_15 (isC_mk ⟨by decide, by decide⟩ (by decide +kernel)) fd5_0.1 fd5_0.2.1 fd5_0.2.2.2 rfl rfl fd5_0.2.2.1 (show (37 : Int) < ((38 : Nat) : Int) by decide) rfl ?_
  refine W_put (k := 46) (k1 := 47) h2 (by decide +kernel) (by decide +kernel) rfl (fun c3 h3 => ?_)
  refine R_aload_n (pc' := 17) dX5_init_16 rfl (by decide) rfl ?_
  refine R_iload_n (pc' := 18) dX5_init_17 rfl rfl ?_
  refine R_newa_int (len := 5) (pc' := 20) dX5_init_18 w_ac_int (by decide) (Nat.le_of_ble_eq_true rfl) (Nat.le_of_ble_eq_true rfl) (okR_mk (n := 38) (by decide)) (okR_mk (n := 38) (by decide)) rfl ?_
  refine W_new (n := 38) (k := 47) (xi := 38) (n1 := 39) (kc1 := 2) (ks1 := 10) h3 (by decide +kernel) (by decide +kernel) rfl rfl rfl rfl (fun c4 h4 => ?_)
  refine R_putfFr (j := 1) (len := 0) (pc' := 23) dX5_init_20 l_RX5_19 (isC_mk ⟨by decide, by decide⟩ (by decide +kernel)) fd5_1.1 fd5_1.2.1 fd5_1.2.2.2 rfl rfl fd5_1.2.2.1 (show (38 : Int) < ((39 : Nat) : Int) by decide) rfl ?_
  refine W_put (k := 47) (k1 := 48) h4 (by decide +kernel) (by decide +kernel) rfl (fun c5 h5 => ?_)
  refine R_aload_n (pc' := 24) dX5_init_23 rfl (by decide) rfl ?_
  refine R_iload_n (pc' := 25) dX5_init_24 rfl rfl ?_
  refine R_newa_int (len := 5) (pc' := 27) dX5_init_25 w_ac_int (by decide) (Nat.le_of_ble_eq_true rfl) (Nat.le_of_ble_eq_true rfl) (okR_mk (n := 39) (by decide)) (okR_mk (n := 39) (by decide)) rfl ?_
  refine W_new (n := 39) (k := 48) (xi := 39) (n1 := 40) (kc1 := 3) (ks1 := 15) h5 (by decide +kernel) (by decide +kernel) rfl rfl rfl rfl (fun c6 h6 => ?_)
  refine R_putfFr (j := 2) (len := 0) (pc' := 30) dX5_init_27 l_RX5_22 (isC_mk ⟨by decide, by decide⟩ (by decide +kernel)) fd5_2.1 fd5_2.2.1 fd5_2.2.2.2 rfl rfl fd5_2.2.2.1 (show (39 : Int) < ((40 : Nat) : Int) by decide) rfl ?_
  refine W_put (k := 48) (k1 := 49) h6 (by decide +kernel) (by decide +kernel) rfl (fun c7 h7 => ?_)
  exact R_ret dX5_init_30 rfl (Nat.le_of_ble_eq_true rfl) (Nat.le_of_ble_eq_true rfl) (hQ c7 h7)
set_option maxRecDepth 100000 in
theorem i_X5_40 {K : SK} {d : Nat} {c : ct} {Q : hp → av → Prop} (h : OKc 41 50 c) (hQ : ∀ c', OKc 44 54 c' → Q (44, SH, c') (8, 0)) : CM K (d + 1) mX5_init [(2, 40), (0, 10)] (41, SH, c) Q := by
  refine CM_ofS (by decide) (Nat.le_of_ble_eq_true rfl) [(2, 40), (0, 10)] rfl ?_
  refine R_aload_n (pc' := 1) dX5_init_0 rfl (by decide) rfl ?_
  refine R_objInit (pc' := 4) dX5_init_1 (by decide) (by omega) (by decide) l_RX5_3 w_oi w_oc rfl ?_
  refine R_aload_n (pc' := 5) dX5_init_4 rfl (by decide) rfl ?_
  refine R_iload_n (pc' := 6) dX5_init_5 rfl rfl ?_
  refine R_putfFi (j := 3) (len := 0) (pc' := 9) dX5_init_6 l_RX5_9 (isC_mk ⟨by decide, by decide⟩ (by decide +kernel)) fd5_3.1 fd5_3.2.1 fd5_3.2.2.2.1 rfl rfl fd5_3.2.2.2.2 rfl ?_
  refine W_put (k := 50) (k1 := 51) h (by decide +kernel) (by decide +kernel) rfl (fun c1 h1 => ?_)
  refine R_aload_n (pc' := 10) dX5_init_9 rfl (by decide) rfl ?_
  refine R_iload_n (pc' := 11) dX5_init_10 rfl rfl ?_
  refine R_newa_int (len := 10) (pc' := 13) dX5_init_11 w_ac_int (by decide) (Nat.le_of_ble_eq_true rfl) (Nat.le_of_ble_eq_true rfl) (okR_mk (n := 41) (by decide)) (okR_mk (n := 41) (by decide)) rfl ?_
  refine W_new (n := 41) (k := 51) (xi := 41) (n1 := 42) (kc1 := 1) (ks1 := 10) h1 (by decide +kernel) (by decide +kernel) rfl rfl rfl rfl (fun c2 h2 => ?_)
  refine R_putfFr (j := 0) (len := 0) (pc' := 16) dX5_init_13 l_RX5_15 (isC_mk ⟨by decide, by decide⟩ (by decide +kernel)) fd5_0.1 fd5_0.2.1 fd5_0.2.2.2 rfl rfl fd5_0.2.2.1 (show (41 : Int) < ((42 : Nat) : Int) by decide) rfl ?_
  refine W_put (k := 51) (k1 := 52) h2 (by decide +kernel) (by decide +kernel) rfl (fun c3 h3 => ?_)
  refine R_aload_n (pc' := 17) dX5_init_16 rfl (by decide) rfl ?_
  refine R_iload_n (pc' := 18) dX5_init_17 rfl rfl ?_
  refine R_newa_int (len := 10) (pc' := 20) dX5_init_18 w_ac_int (by decide) (Nat.le_of_ble_eq_true rfl) (Nat.le_of_ble_eq_true rfl) (okR_mk (n := 42) (by decide)) (okR_mk (n := 42) (by decide)) rfl ?_
  refine W_new (n := 42) (k := 52) (xi := 42) (n1 := 43) (kc1 := 2) (ks1 := 20) h3 (by decide +kernel) (by decide +kernel) rfl rfl rfl rfl (fun c4 h4 => ?_)
  refine R_putfFr (j := 1) (len := 0) (pc' := 23) dX5_init_20 l_RX5_19 (isC_mk ⟨by decide, by decide⟩ (by decide +kernel)) fd5_1.1 fd5_1.2.1 fd5_1.2.2.2 rfl rfl fd5_1.2.2.1 (show (42 : Int) < ((43 : Nat) : Int) by decide) rfl ?_
  refine W_put (k := 52) (k1 := 53) h4 (by decide +kernel) (by decide +kernel) rfl (fun c5 h5 => ?_)
  refine R_aload_n (pc' := 24) dX5_init_23 rfl (by decide) rfl ?_
  refine R_iload_n (pc' := 25) dX5_init_24 rfl rfl ?_
  refine R_newa_int (len := 10) (pc' := 27) dX5_init_25 w_ac_int (by decide) (Nat.le_of_ble_eq_true rfl) (Nat.le_of_ble_eq_true rfl) (okR_mk (n := 43) (by decide)) (okR_mk (n := 43) (by decide)) rfl ?_
  refine W_new (n := 43) (k := 53) (xi := 43) (n1 := 44) (kc1 := 3) (ks1 := 30) h5 (by decide +kernel) (by decide +kernel) rfl rfl rfl rfl (fun c6 h6 => ?_)
  refine R_putfFr (j := 2) (len := 0) (pc' := 30) dX5_init_27 l_RX5_22 (isC_mk ⟨by decide, by decide⟩ (by decide +kernel)) fd5_2.1 fd5_2.2.1 fd5_2.2.2.2 rfl rfl fd5_2.2.2.1 (show (43 : Int) < ((44 : Nat) : Int) by decide) rfl ?_
  refine W_put (k := 53) (k1 := 54) h6 (by decide +kernel) (by decide +kernel) rfl (fun c7 h7 => ?_)
  exact R_ret dX5_init_30 rfl (Nat.le_of_ble_eq_true rfl) (Nat.le_of_ble_eq_true rfl) (hQ c7 h7)
set_option maxRecDepth 100000 in
theorem i_X5_44 {K : SK} {d : Nat} {c : ct} {Q : hp → av → Prop} (h : OKc 45 55 c) (hQ : ∀ c', OKc 48 59 c' → Q (48, SH, c') (8, 0)) : CM K (d + 1) mX5_init [(2, 44), (0, 8)] (45, SH, c) Q := by
  refine CM_ofS (by decide) (Nat.le_of_ble_eq_true rfl) [(2, 44), (0, 8)] rfl ?_
  refine R_aload_n (pc' := 1) dX5_init_0 rfl (by decide) rfl ?_
  refine R_objInit (pc' := 4) dX5_init_1 (by decide) (by omega) (by decide) l_RX5_3 w_oi w_oc rfl ?_
  refine R_aload_n (pc' := 5) dX5_init_4 rfl (by decide) rfl ?_
  refine R_iload_n (pc' := 6) dX5_init_5 rfl rfl ?_
  refine R_putfFi (j := 3) (len := 0) (pc' := 9) dX5_init_6 l_RX5_9 (isC_mk ⟨by decide, by decide⟩ (by decide +kernel)) fd5_3.1 fd5_3.2.1 fd5_3.2.2.2.1 rfl rfl fd5_3.2.2.2.2 rfl ?_
  refine W_put (k := 55) (k1 := 56) h (by decide +kernel) (by decide +kernel) rfl (fun c1 h1 => ?_)
  refine R_aload_n (pc' := 10) dX5_init_9 rfl (by decide) rfl ?_
  refine R_iload_n (pc' := 11) dX5_init_10 rfl rfl ?_
  refine R_newa_int (len := 8) (pc' := 13) dX5_init_11 w_ac_int (by decide) (Nat.le_of_ble_eq_true rfl) (Nat.le_of_ble_eq_true rfl) (okR_mk (n := 45) (by decide)) (okR_mk (n := 45) (by decide)) rfl ?_
  refine W_new (n := 45) (k := 56) (xi := 45) (n1 := 46) (kc1 := 1) (ks1 := 8) h1 (by decide +kernel) (by decide +kernel) rfl rfl rfl rfl (fun c2 h2 => ?_)
  refine R_putfFr (j := 0) (len := 0) (pc' := 16) dX5_init_13 l_RX5_15 (isC_mk ⟨by decide, by decide⟩ (by decide +kernel)) fd5_0.1 fd5_0.2.1 fd5_0.2.2.2 rfl rfl fd5_0.2.2.1 (show (45 : Int) < ((46 : Nat) : Int) by decide) rfl ?_
  refine W_put (k := 56) (k1 := 57) h2 (by decide +kernel) (by decide +kernel) rfl (fun c3 h3 => ?_)
  refine R_aload_n (pc' := 17) dX5_init_16 rfl (by decide) rfl ?_
  refine R_iload_n (pc' := 18) dX5_init_17 rfl rfl ?_
  refine R_newa_int (len := 8) (pc' := 20) dX5_init_18 w_ac_int (by decide) (Nat.le_of_ble_eq_true rfl) (Nat.le_of_ble_eq_true rfl) (okR_mk (n := 46) (by decide)) (okR_mk (n := 46) (by decide)) rfl ?_
  refine W_new (n := 46) (k := 57) (xi := 46) (n1 := 47) (kc1 := 2) (ks1 := 16) h3 (by decide +kernel) (by decide +kernel) rfl rfl rfl rfl (fun c4 h4 => ?_)
  refine R_putfFr (j := 1) (len := 0) (pc' := 23) dX5_init_20 l_RX5_19 (isC_mk ⟨by decide, by decide⟩ (by decide +kernel)) fd5_1.1 fd5_1.2.1 fd5_1.2.2.2 rfl rfl fd5_1.2.2.1 (show (46 : Int) < ((47 : Nat) : Int) by decide) rfl ?_
  refine W_put (k := 57) (k1 := 58) h4 (by decide +kernel) (by decide +kernel) rfl (fun c5 h5 => ?_)
  refine R_aload_n (pc' := 24) dX5_init_23 rfl (by decide) rfl ?_
  refine R_iload_n (pc' := 25) dX5_init_24 rfl rfl ?_
  refine R_newa_int (len := 8) (pc' := 27) dX5_init_25 w_ac_int (by decide) (Nat.le_of_ble_eq_true rfl) (Nat.le_of_ble_eq_true rfl) (okR_mk (n := 47) (by decide)) (okR_mk (n := 47) (by decide)) rfl ?_
  refine W_new (n := 47) (k := 58) (xi := 47) (n1 := 48) (kc1 := 3) (ks1 := 24) h5 (by decide +kernel) (by decide +kernel) rfl rfl rfl rfl (fun c6 h6 => ?_)
  refine R_putfFr (j := 2) (len := 0) (pc' := 30) dX5_init_27 l_RX5_22 (isC_mk ⟨by decide, by decide⟩ (by decide +kernel)) fd5_2.1 fd5_2.2.1 fd5_2.2.2.2 rfl rfl fd5_2.2.2.1 (show (47 : Int) < ((48 : Nat) : Int) by decide) rfl ?_
  refine W_put (k := 58) (k1 := 59) h6 (by decide +kernel) (by decide +kernel) rfl (fun c7 h7 => ?_)
  exact R_ret dX5_init_30 rfl (Nat.le_of_ble_eq_true rfl) (Nat.le_of_ble_eq_true rfl) (hQ c7 h7)
set_option maxRecDepth 100000 in
theorem i_X6_48 {K : SK} {d : Nat} {c : ct} {Q : hp → av → Prop} (h : OKc 49 60 c) (hQ : ∀ c', OKc 59 77 c' → Q (59, SH, c') (8, 0)) : CM K (d + 1) mX6_init [(2, 48), (2, 7)] (49, SH, c) Q := by
  refine CM_ofS (by decide) (Nat.le_of_ble_eq_true rfl) [(2, 48), (2, 7), (9, 0)] rfl ?_
  refine R_aload_n (pc' := 1) dX6_init_0 rfl (by decide) rfl ?_
  refine R_objInit (pc' := 4) dX6_init_1 (by decide) (by omega) (by decide) l_RX6_3 w_oi w_oc rfl ?_
  refine R_aload_n (pc' := 5) dX6_init_4 rfl (by decide) rfl ?_
  refine R_bipush (pc' := 7) dX6_init_5 (by decide) rfl ?_
  refine R_newa_int (len := 6) (pc' := 9) dX6_init_7 w_ac_int (by decide) (Nat.le_of_ble_eq_true rfl) (Nat.le_of_ble_eq_true rfl) (okR_mk (n := 49) (by decide)) (okR_mk (n := 49) (by decide)) rfl ?_
  refine W_new (n := 49) (k := 60) (xi := 49) (n1 := 50) (kc1 := 1) (ks1 := 6) h (by decide +kernel) (by decide +kernel) rfl rfl rfl rfl (fun c1 h1 => ?_)
  refine R_putfFr (j := 0) (len := 0) (pc' := 12) dX6_init_9 l_RX6_9 (isC_mk ⟨by decide, by decide⟩ (by decide +kernel)) fd6_0.1 fd6_0.2.1 fd6_0.2.2.2 rfl rfl fd6_0.2.2.1 (show (49 : Int) < ((50 : Nat) : Int) by decide) rfl ?_
  refine W_put (k := 60) (k1 := 61) h1 (by decide +kernel) (by decide +kernel) rfl (fun c2 h2 => ?_)
  refine R_aload_n (pc' := 13) dX6_init_12 rfl (by decide) rfl ?_
  refine R_bipush (pc' := 15) dX6_init_13 (by decide) rfl ?_
  refine R_newa_int (len := 6) (pc' := 17) dX6_init_15 w_ac_int (by decide) (Nat.le_of_ble_eq_true rfl) (Nat.le_of_ble_eq_true rfl) (okR_mk (n := 50) (by decide)) (okR_mk (n := 50) (by decide)) rfl ?_
  refine W_new (n := 50) (k := 61) (xi := 50) (n1 := 51) (kc1 := 2) (ks1 := 12) h2 (by decide +kernel) (by decide +kernel) rfl rfl rfl rfl (fun c3 h3 => ?_)
  refine R_putfFr (j := 1) (len := 0) (pc' := 20) dX6_init_17 l_RX6_15 (isC_mk ⟨by decide, by decide⟩ (by decide +kernel)) fd6_1.1 fd6_1.2.1 fd6_1.2.2.2 rfl rfl fd6_1.2.2.1 (show (50 : Int) < ((51 : Nat) : Int) by decide) rfl ?_
  refine W_put (k := 61) (k1 := 62) h3 (by decide +kernel) (by decide +kernel) rfl (fun c4 h4 => ?_)
  refine R_aload_n (pc' := 21) dX6_init_20 rfl (by decide) rfl ?_
  refine R_bipush (pc' := 23) dX6_init_21 (by decide) rfl ?_
  refine R_newa_int (len := 6) (pc' := 25) dX6_init_23 w_ac_int (by decide) (Nat.le_of_ble_eq_true rfl) (Nat.le_of_ble_eq_true rfl) (okR_mk (n := 51) (by decide)) (okR_mk (n := 51) (by decide)) rfl ?_
  refine W_new (n := 51) (k := 62) (xi := 51) (n1 := 52) (kc1 := 3) (ks1 := 18) h4 (by decide +kernel) (by decide +kernel) rfl rfl rfl rfl (fun c5 h5 => ?_)
  refine R_putfFr (j := 2) (len := 0) (pc' := 28) dX6_init_25 l_RX6_18 (isC_mk ⟨by decide, by decide⟩ (by decide +kernel)) fd6_2.1 fd6_2.2.1 fd6_2.2.2.2 rfl rfl fd6_2.2.2.1 (show (51 : Int) < ((52 : Nat) : Int) by decide) rfl ?_
  refine W_put (k := 62) (k1 := 63) h5 (by decide +kernel) (by decide +kernel) rfl (fun c6 h6 => ?_)
  refine R_aload_n (pc' := 29) dX6_init_28 rfl (by decide) rfl ?_
  refine R_bipush (pc' := 31) dX6_init_29 (by decide) rfl ?_
  refine R_newa_int (len := 6) (pc' := 33) dX6_init_31 w_ac_int (by decide) (Nat.le_of_ble_eq_true rfl) (Nat.le_of_ble_eq_true rfl) (okR_mk (n := 52) (by decide)) (okR_mk (n := 52) (by decide)) rfl ?_
  refine W_new (n := 52) (k := 63) (xi := 52) (n1 := 53) (kc1 := 4) (ks1 := 24) h6 (by decide +kernel) (by decide +kernel) rfl rfl rfl rfl (fun c7 h7 => ?_)
  refine R_putfFr (j := 3) (len := 0) (pc' := 36) dX6_init_33 l_RX6_21 (isC_mk ⟨by decide, by decide⟩ (by decide +kernel)) fd6_3.1 fd6_3.2.1 fd6_3.2.2.2 rfl rfl fd6_3.2.2.1 (show (52 : Int) < ((53 : Nat) : Int) by decide) rfl ?_
  refine W_put (k := 63) (k1 := 64) h7 (by decide +kernel) (by decide +kernel) rfl (fun c8 h8 => ?_)
  refine R_aload_n (pc' := 37) dX6_init_36 rfl (by decide) rfl ?_
  refine R_bipush (pc' := 39) dX6_init_37 (by decide) rfl ?_
  refine R_newa_boolean (len := 6) (pc' := 41) dX6_init_39 w_ac_boolean (by decide) (Nat.le_of_ble_eq_true rfl) (Nat.le_of_ble_eq_true rfl) (okR_mk (n := 53) (by decide)) (okR_mk (n := 53) (by decide)) rfl ?_
  refine W_new (n := 53) (k := 64) (xi := 53) (n1 := 54) (kc1 := 5) (ks1 := 30) h8 (by decide +kernel) (by decide +kernel) rfl rfl rfl rfl (fun c9 h9 => ?_)
  refine R_putfFr (j := 4) (len := 0) (pc' := 44) dX6_init_41 l_RX6_24 (isC_mk ⟨by decide, by decide⟩ (by decide +kernel)) fd6_4.1 fd6_4.2.1 fd6_4.2.2.2 rfl rfl fd6_4.2.2.1 (show (53 : Int) < ((54 : Nat) : Int) by decide) rfl ?_
  refine W_put (k := 64) (k1 := 65) h9 (by decide +kernel) (by decide +kernel) rfl (fun c10 h10 => ?_)
  refine R_aload_n (pc' := 45) dX6_init_44 rfl (by decide) rfl ?_
  refine R_bipush (pc' := 47) dX6_init_45 (by decide) rfl ?_
  refine R_newa_boolean (len := 6) (pc' := 49) dX6_init_47 w_ac_boolean (by decide) (Nat.le_of_ble_eq_true rfl) (Nat.le_of_ble_eq_true rfl) (okR_mk (n := 54) (by decide)) (okR_mk (n := 54) (by decide)) rfl ?_
  refine W_new (n := 54) (k := 65) (xi := 54) (n1 := 55) (kc1 := 6) (ks1 := 36) h10 (by decide +kernel) (by decide +kernel) rfl rfl rfl rfl (fun c11 h11 => ?_)
  refine R_putfFr (j := 5) (len := 0) (pc' := 52) dX6_init_49 l_RX6_28 (isC_mk ⟨by decide, by decide⟩ (by decide +kernel)) fd6_5.1 fd6_5.2.1 fd6_5.2.2.2 rfl rfl fd6_5.2.2.1 (show (54 : Int) < ((55 : Nat) : Int) by decide) rfl ?_
  refine W_put (k := 65) (k1 := 66) h11 (by decide +kernel) (by decide +kernel) rfl (fun c12 h12 => ?_)
  refine R_aload_n (pc' := 53) dX6_init_52 rfl (by decide) rfl ?_
  refine R_bipush (pc' := 55) dX6_init_53 (by decide) rfl ?_
  refine R_newa_int (len := 24) (pc' := 57) dX6_init_55 w_ac_int (by decide) (Nat.le_of_ble_eq_true rfl) (Nat.le_of_ble_eq_true rfl) (okR_mk (n := 55) (by decide)) (okR_mk (n := 55) (by decide)) rfl ?_
  refine W_new (n := 55) (k := 66) (xi := 55) (n1 := 56) (kc1 := 7) (ks1 := 60) h12 (by decide +kernel) (by decide +kernel) rfl rfl rfl rfl (fun c13 h13 => ?_)
  refine R_putfFr (j := 6) (len := 0) (pc' := 60) dX6_init_57 l_RX6_31 (isC_mk ⟨by decide, by decide⟩ (by decide +kernel)) fd6_6.1 fd6_6.2.1 fd6_6.2.2.2 rfl rfl fd6_6.2.2.1 (show (55 : Int) < ((56 : Nat) : Int) by decide) rfl ?_
  refine W_put (k := 66) (k1 := 67) h13 (by decide +kernel) (by decide +kernel) rfl (fun c14 h14 => ?_)
  refine R_aload_n (pc' := 61) dX6_init_60 rfl (by decide) rfl ?_
  refine R_bipush (pc' := 63) dX6_init_61 (by decide) rfl ?_
  refine R_newa_int (len := 6) (pc' := 65) dX6_init_63 w_ac_int (by decide) (Nat.le_of_ble_eq_true rfl) (Nat.le_of_ble_eq_true rfl) (okR_mk (n := 56) (by decide)) (okR_mk (n := 56) (by decide)) rfl ?_
  refine W_new (n := 56) (k := 67) (xi := 56) (n1 := 57) (kc1 := 8) (ks1 := 66) h14 (by decide +kernel) (by decide +kernel) rfl rfl rfl rfl (fun c15 h15 => ?_)
  refine R_putfFr (j := 7) (len := 0) (pc' := 68) dX6_init_65 l_RX6_34 (isC_mk ⟨by decide, by decide⟩ (by decide +kernel)) fd6_7.1 fd6_7.2.1 fd6_7.2.2.2 rfl rfl fd6_7.2.2.1 (show (56 : Int) < ((57 : Nat) : Int) by decide) rfl ?_
  refine W_put (k := 67) (k1 := 68) h15 (by decide +kernel) (by decide +kernel) rfl (fun c16 h16 => ?_)
  refine R_aload_n (pc' := 69) dX6_init_68 rfl (by decide) rfl ?_
  refine R_bipush (pc' := 71) dX6_init_69 (by decide) rfl ?_
  refine R_newa_int (len := 36) (pc' := 73) dX6_init_71 w_ac_int (by decide) (Nat.le_of_ble_eq_true rfl) (Nat.le_of_ble_eq_true rfl) (okR_mk (n := 57) (by decide)) (okR_mk (n := 57) (by decide)) rfl ?_
  refine W_new (n := 57) (k := 68) (xi := 57) (n1 := 58) (kc1 := 9) (ks1 := 102) h16 (by decide +kernel) (by decide +kernel) rfl rfl rfl rfl (fun c17 h17 => ?_)
  refine R_putfFr (j := 8) (len := 0) (pc' := 76) dX6_init_73 l_RX6_37 (isC_mk ⟨by decide, by decide⟩ (by decide +kernel)) fd6_8.1 fd6_8.2.1 fd6_8.2.2.2 rfl rfl fd6_8.2.2.1 (show (57 : Int) < ((58 : Nat) : Int) by decide) rfl ?_
  refine W_put (k := 68) (k1 := 69) h17 (by decide +kernel) (by decide +kernel) rfl (fun c18 h18 => ?_)
  refine R_aload_n (pc' := 77) dX6_init_76 rfl (by decide) rfl ?_
  refine R_bipush (pc' := 79) dX6_init_77 (by decide) rfl ?_
  refine R_newa_int (len := 6) (pc' := 81) dX6_init_79 w_ac_int (by decide) (Nat.le_of_ble_eq_true rfl) (Nat.le_of_ble_eq_true rfl) (okR_mk (n := 58) (by decide)) (okR_mk (n := 58) (by decide)) rfl ?_
  refine W_new (n := 58) (k := 69) (xi := 58) (n1 := 59) (kc1 := 10) (ks1 := 108) h18 (by decide +kernel) (by decide +kernel) rfl rfl rfl rfl (fun c19 h19 => ?_)
  refine R_putfFr (j := 9) (len := 0) (pc' := 84) dX6_init_81 l_RX6_42 (isC_mk ⟨by decide, by decide⟩ (by decide +kernel)) fd6_9.1 fd6_9.2.1 fd6_9.2.2.2 rfl rfl fd6_9.2.2.1 (show (58 : Int) < ((59 : Nat) : Int) by decide) rfl ?_
  refine W_put (k := 69) (k1 := 70) h19 (by decide +kernel) (by decide +kernel) rfl (fun c20 h20 => ?_)
  refine R_aload_n (pc' := 85) dX6_init_84 rfl (by decide) rfl ?_
  refine R_aload_n (pc' := 86) dX6_init_85 rfl (by decide) rfl ?_
  refine R_putfr (j := 13) (len := 0) (pc' := 89) dX6_init_86 l_RX6_45 (isC_mk ⟨by decide, by decide⟩ (by decide +kernel)) fd6_13.1 fd6_13.2.1 fd6_13.2.2.2 fd6_13.2.2.1 (show (7 : Int) < ((59 : Nat) : Int) by decide) rfl ?_
  refine W_put (k := 70) (k1 := 71) h20 (by decide +kernel) (by decide +kernel) rfl (fun c21 h21 => ?_)
  refine R_iconst (pc' := 90) dX6_init_89 rfl ?_
  refine R_istore_n (L' := [(2, 48), (2, 7), (0, 0)]) (pc' := 91) dX6_init_90 (by decide) rfl rfl rfl ?_
  refine R_iload_n (pc' := 92) dX6_init_91 rfl rfl ?_
  refine R_bipush (pc' := 94) dX6_init_92 (by decide) rfl ?_
  refine R_icmp_ge (tgt := 110) (pc' := 97) dX6_init_94 (by decide) (ir_l (by decide) (by decide)) (ir_l (by decide) (by decide)) rfl (fun q => absurd q (by decide)) (fun _ => ?_)
  refine R_aload_n (pc' := 98) dX6_init_97 rfl (by decide) rfl ?_
  refine R_getfr (j := 7) (len := 0) (pc' := 101) dX6_init_98 l_RX6_34 (isC_mk ⟨by decide, by decide⟩ (by decide +kernel)) fd6_7.1 fd6_7.2.1 fd6_7.2.2.1 rfl ?_
  refine W_get (k := 71) (v := 56) h21 ⟨by decide, by decide, by decide⟩ (by decide +kernel) (by decide +kernel) ?_
  refine R_iload_n (pc' := 102) dX6_init_101 rfl rfl ?_
  refine R_iconst (pc' := 103) dX6_init_102 rfl ?_
  refine R_iastore (pc' := 104) dX6_init_103 (len := 6) (isC_mk ⟨by decide, by decide⟩ (by decide +kernel)) (by decide) (by decide) (by decide) rfl ?_
  refine W_put (k := 71) (k1 := 72) h21 (by decide +kernel) (by decide +kernel) rfl (fun c22 h22 => ?_)
  refine R_iinc (L' := [(2, 48), (2, 7), (0, 1)]) (pc' := 107) dX6_init_104 rfl (by decide) rfl rfl rfl ?_
  refine R_goto (tgt := 91) dX6_init_107 (by decide) ?_
  refine R_iload_n (pc' := 92) dX6_init_91 rfl rfl ?_
  refine R_bipush (pc' := 94) dX6_init_92 (by decide) rfl ?_
  refine R_icmp_ge (tgt := 110) (pc' := 97) dX6_init_94 (by decide) (ir_l (by decide) (by decide)) (ir_l (by decide) (by decide)) rfl (fun q => absurd q (by decide)) (fun _ => ?_)
  refine R_aload_n (pc' := 98) dX6_init_97 rfl (by decide) rfl ?_
  refine R_getfr (j := 7) (len := 0) (pc' := 101) dX6_init_98 l_RX6_34 (isC_mk ⟨by decide, by decide⟩ (by decide +kernel)) fd6_7.1 fd6_7.2.1 fd6_7.2.2.1 rfl ?_
  refine W_get (k := 72) (v := 56) h22 ⟨by decide, by decide, by decide⟩ (by decide +kernel) (by decide +kernel) ?_
  refine R_iload_n (pc' := 102) dX6_init_101 rfl rfl ?_
  refine R_iconst (pc' := 103) dX6_init_102 rfl ?_
  refine R_iastore (pc' := 104) dX6_init_103 (len := 6) (isC_mk ⟨by decide, by decide⟩ (by decide +kernel)) (by decide) (by decide) (by decide) rfl ?_
  refine W_put (k := 72) (k1 := 73) h22 (by decide +kernel) (by decide +kernel) rfl (fun c23 h23 => ?_)
  refine R_iinc (L' := [(2, 48), (2, 7), (0, 2)]) (pc' := 107) dX6_init_104 rfl (by decide) rfl rfl rfl ?_
  refine R_goto (tgt := 91) dX6_init_107 (by decide) ?_
  refine R_iload_n (pc' := 92) dX6_init_91 rfl rfl ?_
  refine R_bipush (pc' := 94) dX6_init_92 (by decide) rfl ?_
  refine R_icmp_ge (tgt := 110) (pc' := 97) dX6_init_94 (by decide) (ir_l (by decide) (by decide)) (ir_l (by decide) (by decide)) rfl (fun q => absurd q (by decide)) (fun _ => ?_)
  refine R_aload_n (pc' := 98) dX6_init_97 rfl (by decide) rfl ?_
  refine R_getfr (j := 7) (len := 0) (pc' := 101) dX6_init_98 l_RX6_34 (isC_mk ⟨by decide, by decide⟩ (by decide +kernel)) fd6_7.1 fd6_7.2.1 fd6_7.2.2.1 rfl ?_
  refine W_get (k := 73) (v := 56) h23 ⟨by decide, by decide, by decide⟩ (by decide +kernel) (by decide +kernel) ?_
  refine R_iload_n (pc' := 102) dX6_init_101 rfl rfl ?_
  refine R_iconst (pc' := 103) dX6_init_102 rfl ?_
  refine R_iastore (pc' := 104) dX6_init_103 (len := 6) (isC_mk ⟨by decide, by decide⟩ (by decide +kernel)) (by decide) (by decide) (by decide) rfl ?_
  refine W_put (k := 73) (k1 := 74) h23 (by decide +kernel) (by decide +kernel) rfl (fun c24 h24 => ?_)
  refine R_iinc (L' := [(2, 48), (2, 7), (0, 3)]) (pc' := 107) dX6_init_104 rfl (by decide) rfl rfl rfl ?_
  refine R_goto (tgt := 91) dX6_init_107 (by decide) ?_
  refine R_iload_n (pc' := 92) dX6_init_91 rfl rfl ?_
  refine R_bipush (pc' := 94) dX6_init_92 (by decide) rfl ?_
  refine R_icmp_ge (tgt := 110) (pc' := 97) dX6_init_94 (by decide) (ir_l (by decide) (by decide)) (ir_l (by decide) (by decide)) rfl (fun q => absurd q (by decide)) (fun _ => ?_)
  refine R_aload_n (pc' := 98) dX6_init_97 rfl (by decide) rfl ?_
  refine R_getfr (j := 7) (len := 0) (pc' := 101) dX6_init_98 l_RX6_34 (isC_mk ⟨by decide, by decide⟩ (by decide +kernel)) fd6_7.1 fd6_7.2.1 fd6_7.2.2.1 rfl ?_
  refine W_get (k := 74) (v := 56) h24 ⟨by decide, by decide, by decide⟩ (by decide +kernel) (by decide +kernel) ?_
  refine R_iload_n (pc' := 102) dX6_init_101 rfl rfl ?_
  refine R_iconst (pc' := 103) dX6_init_102 rfl ?_
  refine R_iastore (pc' := 104) dX6_init_103 (len := 6) (isC_mk ⟨by decide, by decide⟩ (by decide +kernel)) (by decide) (by decide) (by decide) rfl ?_
  refine W_put (k := 74) (k1 := 75) h24 (by decide +kernel) (by decide +kernel) rfl (fun c25 h25 => ?_)
  refine R_iinc (L' := [(2, 48), (2, 7), (0, 4)]) (pc' := 107) dX6_init_104 rfl (by decide) rfl rfl rfl ?_
  refine R_goto (tgt := 91) dX6_init_107 (by decide) ?_
  refine R_iload_n (pc' := 92) dX6_init_91 rfl rfl ?_
  refine R_bipush (pc' := 94) dX6_init_92 (by decide) rfl ?_
  refine R_icmp_ge (tgt := 110) (pc' := 97) dX6_init_94 (by decide) (ir_l (by decide) (by decide)) (ir_l (by decide) (by decide)) rfl (fun q => absurd q (by decide)) (fun _ => ?_)
  refine R_aload_n (pc' := 98) dX6_init_97 rfl (by decide) rfl ?_
  refine R_getfr (j := 7) (len := 0) (pc' := 101) dX6_init_98 l_RX6_34 (isC_mk ⟨by decide, by decide⟩ (by decide +kernel)) fd6_7.1 fd6_7.2.1 fd6_7.2.2.1 rfl ?_
  refine W_get (k := 75) (v := 56) h25 ⟨by decide, by decide, by decide⟩ (by decide +kernel) (by decide +kernel) ?_
  refine R_iload_n (pc' := 102) dX6_init_101 rfl rfl ?_
  refine R_iconst (pc' := 103) dX6_init_102 rfl ?_
  refine R_iastore (pc' := 104) dX6_init_103 (len := 6) (isC_mk ⟨by decide, by decide⟩ (by decide +kernel)) (by decide) (by decide) (by decide) rfl ?_
  refine W_put (k := 75) (k1 := 76) h25 (by decide +kernel) (by decide +kernel) rfl (fun c26 h26 => ?_)
  refine R_iinc (L' := [(2, 48), (2, 7), (0, 5)]) (pc' := 107) dX6_init_104 rfl (by decide) rfl rfl rfl ?_
  refine R_goto (tgt := 91) dX6_init_107 (by decide) ?_
  refine R_iload_n (pc' := 92) dX6_init_91 rfl rfl ?_
  refine R_bipush (pc' := 94) dX6_init_92 (by decide) rfl ?_
  refine R_icmp_ge (tgt := 110) (pc' := 97) dX6_init_94 (by decide) (ir_l (by decide) (by decide)) (ir_l (by decide) (by decide)) rfl (fun q => absurd q (by decide)) (fun _ => ?_)
  refine R_aload_n (pc' := 98) dX6_init_97 rfl (by decide) rfl ?_
  refine R_getfr (j := 7) (len := 0) (pc' := 101) dX6_init_98 l_RX6_34 (isC_mk ⟨by decide, by decide⟩ (by decide +kernel)) fd6_7.1 fd6_7.2.1 fd6_7.2.2.1 rfl ?_
  refine W_get (k := 76) (v := 56) h26 ⟨by decide, by decide, by decide⟩ (by decide +kernel) (by decide +kernel) ?_
  refine R_iload_n (pc' := 102) dX6_init_101 rfl rfl ?_
  refine R_iconst (pc' := 103) dX6_init_102 rfl ?_
  refine R_iastore (pc' := 104) dX6_init_103 (len := 6) (isC_mk ⟨by decide, by decide⟩ (by decide +kernel)) (by decide) (by decide) (by decide) rfl ?_
  refine W_put (k := 76) (k1 := 77) h26 (by decide +kernel) (by decide +kernel) rfl (fun c27 h27 => ?_)
  refine R_iinc (L' := [(2, 48), (2, 7), (0, 6)]) (pc' := 107) dX6_init_104 rfl (by decide) rfl rfl rfl ?_
  refine R_goto (tgt := 91) dX6_init_107 (by decide) ?_
  refine R_iload_n (pc' := 92) dX6_init_91 rfl rfl ?_
  refine R_bipush (pc' := 94) dX6_init_92 (by decide) rfl ?_
  refine R_icmp_ge (tgt := 110) (pc' := 97) dX6_init_94 (by decide) (ir_l (by decide) (by decide)) (ir_l (by decide) (by decide)) rfl (fun _ => ?_) (fun q => absurd (by decide) q)
  exact R_ret dX6_init_110 rfl (Nat.le_of_ble_eq_true rfl) (Nat.le_of_ble_eq_true rfl) (hQ c27 h27)
set_option maxRecDepth 100000 in
theorem i_X1_35 {K : SK} {d : Nat} {c : ct} {Q : hp → av → Prop} (h : OKc 36 45 c) (hQ : ∀ c', OKc 59 78 c' → Q (59, SH, c') (8, 0)) : CM K (d + 2) mX1_init [(2, 35), (2, 7)] (36, SH, c) Q := by
  refine CM_ofS (by decide) (Nat.le_of_ble_eq_true rfl) [(2, 35), (2, 7)] rfl ?_
  refine R_aload_n (pc' := 1) dX1_init_0 rfl (by decide) rfl ?_
  refine R_objInit (pc' := 4) dX1_init_1 (by decide) (by omega) (by decide) l_RX1_3 w_oi w_oc rfl ?_
  refine R_aload_n (pc' := 5) dX1_init_4 rfl (by decide) rfl ?_
  refine R_new (pc' := 8) dX1_init_5 (by decide) l_RX1_9 w_ins_5 w_ini_LeavesRoom_Rows (Nat.le_of_ble_eq_true rfl) (Nat.le_of_ble_eq_true rfl) (okR_mk (n := 36) (by decide)) (okR_mk (n := 36) (by decide)) rfl ?_
  refine W_new (n := 36) (k := 45) (xi := 36) (n1 := 37) (kc1 := 1) (ks1 := 5) h (by decide +kernel) (by decide +kernel) rfl rfl rfl rfl (fun c1 h1 => ?_)
  refine R_dup (pc' := 9) dX1_init_8 (by simp) rfl ?_
  refine R_iconst (pc' := 10) dX1_init_9 rfl ?_
  refine R_callI (vs := [(0, 5)]) (st := [(2, 36), (2, 35)]) (x := 36) (pc' := 13) dX1_init_10 l_RX1_11 (by decide) rfl (by decide) (Nat.le_of_ble_eq_true rfl) (Nat.le_of_ble_eq_true rfl) (Or.inr ⟨(okR_mk (n := 37) (by decide)), (okR_mk (n := 37) (by decide))⟩) rfl ?_
  refine i_X5_36 h1 (fun c2 h2 => ?_)
  show WP K _ mX1_init 4 35 13 [(2, 35), (2, 7)] [(2, 36), (2, 35)] (40, SH, c2) Q
  refine R_putfFr (j := 1) (len := 0) (pc' := 16) dX1_init_13 l_RX1_14 (isC_mk ⟨by decide, by decide⟩ (by decide +kernel)) fd1_1.1 fd1_1.2.1 fd1_1.2.2.2 rfl rfl fd1_1.2.2.1 (show (36 : Int) < ((40 : Nat) : Int) by decide) rfl ?_
  refine W_put (k := 49) (k1 := 50) h2 (by decide +kernel) (by decide +kernel) rfl (fun c3 h3 => ?_)
  refine R_aload_n (pc' := 17) dX1_init_16 rfl (by decide) rfl ?_
  refine R_new (pc' := 20) dX1_init_17 (by decide) l_RX1_9 w_ins_5 w_ini_LeavesRoom_Rows (Nat.le_of_ble_eq_true rfl) (Nat.le_of_ble_eq_true rfl) (okR_mk (n := 40) (by decide)) (okR_mk (n := 40) (by decide)) rfl ?_
  refine W_new (n := 40) (k := 50) (xi := 40) (n1 := 41) (kc1 := 5) (ks1 := 40) h3 (by decide +kernel) (by decide +kernel) rfl rfl rfl rfl (fun c4 h4 => ?_)
  refine R_dup (pc' := 21) dX1_init_20 (by simp) rfl ?_
  refine R_bipush (pc' := 23) dX1_init_21 (by decide) rfl ?_
  refine R_callI (vs := [(0, 10)]) (st := [(2, 40), (2, 35)]) (x := 40) (pc' := 26) dX1_init_23 l_RX1_11 (by decide) rfl (by decide) (Nat.le_of_ble_eq_true rfl) (Nat.le_of_ble_eq_true rfl) (Or.inr ⟨(okR_mk (n := 41) (by decide)), (okR_mk (n := 41) (by decide))⟩) rfl ?_
  refine i_X5_40 h4 (fun c5 h5 => ?_)
  show WP K _ mX1_init 8 70 26 [(2, 35), (2, 7)] [(2, 40), (2, 35)] (44, SH, c5) Q
  refine R_putfFr (j := 2) (len := 0) (pc' := 29) dX1_init_26 l_RX1_20 (isC_mk ⟨by decide, by decide⟩ (by decide +kernel)) fd1_2.1 fd1_2.2.1 fd1_2.2.2.2 rfl rfl fd1_2.2.2.1 (show (40 : Int) < ((44 : Nat) : Int) by decide) rfl ?_
  refine W_put (k := 54) (k1 := 55) h5 (by decide +kernel) (by decide +kernel) rfl (fun c6 h6 => ?_)
  refine R_aload_n (pc' := 30) dX1_init_29 rfl (by decide) rfl ?_
  refine R_new (pc' := 33) dX1_init_30 (by decide) l_RX1_9 w_ins_5 w_ini_LeavesRoom_Rows (Nat.le_of_ble_eq_true rfl) (Nat.le_of_ble_eq_true rfl) (okR_mk (n := 44) (by decide)) (okR_mk (n := 44) (by decide)) rfl ?_
  refine W_new (n := 44) (k := 55) (xi := 44) (n1 := 45) (kc1 := 9) (ks1 := 75) h6 (by decide +kernel) (by decide +kernel) rfl rfl rfl rfl (fun c7 h7 => ?_)
  refine R_dup (pc' := 34) dX1_init_33 (by simp) rfl ?_
  refine R_bipush (pc' := 36) dX1_init_34 (by decide) rfl ?_
  refine R_callI (vs := [(0, 8)]) (st := [(2, 44), (2, 35)]) (x := 44) (pc' := 39) dX1_init_36 l_RX1_11 (by decide) rfl (by decide) (Nat.le_of_ble_eq_true rfl) (Nat.le_of_ble_eq_true rfl) (Or.inr ⟨(okR_mk (n := 45) (by decide)), (okR_mk (n := 45) (by decide))⟩) rfl ?_
  refine i_X5_44 h7 (fun c8 h8 => ?_)
  show WP K _ mX1_init 12 105 39 [(2, 35), (2, 7)] [(2, 44), (2, 35)] (48, SH, c8) Q
  refine R_putfFr (j := 3) (len := 0) (pc' := 42) dX1_init_39 l_RX1_23 (isC_mk ⟨by decide, by decide⟩ (by decide +kernel)) fd1_3.1 fd1_3.2.1 fd1_3.2.2.2 rfl rfl fd1_3.2.2.1 (show (44 : Int) < ((48 : Nat) : Int) by decide) rfl ?_
  refine W_put (k := 59) (k1 := 60) h8 (by decide +kernel) (by decide +kernel) rfl (fun c9 h9 => ?_)
  refine R_aload_n (pc' := 43) dX1_init_42 rfl (by decide) rfl ?_
  refine R_new (pc' := 46) dX1_init_43 (by decide) l_RX1_26 w_ins_6 w_ini_LeavesRoom_Table (Nat.le_of_ble_eq_true rfl) (Nat.le_of_ble_eq_true rfl) (okR_mk (n := 48) (by decide)) (okR_mk (n := 48) (by decide)) rfl ?_
  refine W_new (n := 48) (k := 60) (xi := 48) (n1 := 49) (kc1 := 13) (ks1 := 119) h9 (by decide +kernel) (by decide +kernel) rfl rfl rfl rfl (fun c10 h10 => ?_)
  refine R_dup (pc' := 47) dX1_init_46 (by simp) rfl ?_
  refine R_aload_n (pc' := 48) dX1_init_47 rfl (by decide) rfl ?_
  refine R_callI (vs := [(2, 7)]) (st := [(2, 48), (2, 35)]) (x := 48) (pc' := 51) dX1_init_48 l_RX1_28 (by decide) rfl (by decide) (Nat.le_of_ble_eq_true rfl) (Nat.le_of_ble_eq_true rfl) (Or.inr ⟨(okR_mk (n := 49) (by decide)), (okR_mk (n := 49) (by decide))⟩) rfl ?_
  refine i_X6_48 h10 (fun c11 h11 => ?_)
  show WP K _ mX1_init 23 233 51 [(2, 35), (2, 7)] [(2, 48), (2, 35)] (59, SH, c11) Q
  refine R_putfFr (j := 0) (len := 0) (pc' := 54) dX1_init_51 l_RX1_31 (isC_mk ⟨by decide, by decide⟩ (by decide +kernel)) fd1_0.1 fd1_0.2.1 fd1_0.2.2.2 rfl rfl fd1_0.2.2.1 (show (48 : Int) < ((59 : Nat) : Int) by decide) rfl ?_
  refine W_put (k := 77) (k1 := 78) h11 (by decide +kernel) (by decide +kernel) rfl (fun c12 h12 => ?_)
  exact R_ret dX1_init_54 rfl (Nat.le_of_ble_eq_true rfl) (Nat.le_of_ble_eq_true rfl) (hQ c12 h12)
set_option maxRecDepth 100000 in
theorem i_X6_59 {K : SK} {d : Nat} {c : ct} {Q : hp → av → Prop} (h : OKc 60 79 c) (hQ : ∀ c', OKc 70 96 c' → Q (70, SH, c') (8, 0)) : CM K (d + 1) mX6_init [(2, 59), (2, 7)] (60, SH, c) Q := by
  refine CM_ofS (by decide) (Nat.le_of_ble_eq_true rfl) [(2, 59), (2, 7), (9, 0)] rfl ?_
  refine R_aload_n (pc' := 1) dX6_init_0 rfl (by decide) rfl ?_
  refine R_objInit (pc' := 4) dX6_init_1 (by decide) (by omega) (by decide) l_RX6_3 w_oi w_oc rfl ?_
  refine R_aload_n (pc' := 5) dX6_init_4 rfl (by decide) rfl ?_
  refine R_bipush (pc' := 7) dX6_init_5 (by decide) rfl ?_
  refine R_newa_int (len := 6) (pc' := 9) dX6_init_7 w_ac_int (by decide) (Nat.le_of_ble_eq_true rfl) (Nat.le_of_ble_eq_true rfl) (okR_mk (n := 60) (by decide)) (okR_mk (n := 60) (by decide)) rfl ?_
  refine W_new (n := 60) (k := 79) (xi := 60) (n1 := 61) (kc1 := 1) (ks1 := 6) h (by decide +kernel) (by decide +kernel) rfl rfl rfl rfl (fun c1 h1 => ?_)
  refine R_putfFr (j := 0) (len := 0) (pc' := 12) dX6_init_9 l_RX6_9 (isC_mk ⟨by decide, by decide⟩ (by decide +kernel)) fd6_0.1 fd6_0.2.1 fd6_0.2.2.2 rfl rfl fd6_0.2.2.1 (show (60 : Int) < ((61 : Nat) : Int) by decide) rfl ?_
  refine W_put (k := 79) (k1 := 80) h1 (by decide +kernel) (by decide +kernel) rfl (fun c2 h2 => ?_)
  refine R_aload_n (pc' := 13) dX6_init_12 rfl (by decide) rfl ?_
  refine R_bipush (pc' := 15) dX6_init_13 (by decide) rfl ?_
  refine R_newa_int (len := 6) (pc' := 17) dX6_init_15 w_ac_int (by decide) (Nat.le_of_ble_eq_true rfl) (Nat.le_of_ble_eq_true rfl) (okR_mk (n := 61) (by decide)) (okR_mk (n := 61) (by decide)) rfl ?_
  refine W_new (n := 61) (k := 80) (xi := 61) (n1 := 62) (kc1 := 2) (ks1 := 12) h2 (by decide +kernel) (by decide +kernel) rfl rfl rfl rfl (fun c3 h3 => ?_)
  refine R_putfFr (j := 1) (len := 0) (pc' := 20) dX6_init_17 l_RX6_15 (isC_mk ⟨by decide, by decide⟩ (by decide +kernel)) fd6_1.1 fd6_1.2.1 fd6_1.2.2.2 rfl rfl fd6_1.2.2.1 (show (61 : Int) < ((62 : Nat) : Int) by decide) rfl ?_
  refine W_put (k := 80) (k1 := 81) h3 (by decide +kernel) (by decide +kernel) rfl (fun c4 h4 => ?_)
  refine R_aload_n (pc' := 21) dX6_init_20 rfl (by decide) rfl ?_
  refine R_bipush (pc' := 23) dX6_init_21 (by decide) rfl ?_
  refine R_newa_int (len := 6) (pc' := 25) dX6_init_23 w_ac_int (by decide) (Nat.le_of_ble_eq_true rfl) (Nat.le_of_ble_eq_true rfl) (okR_mk (n := 62) (by decide)) (okR_mk (n := 62) (by decide)) rfl ?_
  refine W_new (n := 62) (k := 81) (xi := 62) (n1 := 63) (kc1 := 3) (ks1 := 18) h4 (by decide +kernel) (by decide +kernel) rfl rfl rfl rfl (fun c5 h5 => ?_)
  refine R_putfFr (j := 2) (len := 0) (pc' := 28) dX6_init_25 l_RX6_18 (isC_mk ⟨by decide, by decide⟩ (by decide +kernel)) fd6_2.1 fd6_2.2.1 fd6_2.2.2.2 rfl rfl fd6_2.2.2.1 (show (62 : Int) < ((63 : Nat) : Int) by decide) rfl ?_
  refine W_put (k := 81) (k1 := 82) h5 (by decide +kernel) (by decide +kernel) rfl (fun c6 h6 => ?_)
  refine R_aload_n (pc' := 29) dX6_init_28 rfl (by decide) rfl ?_
  refine R_bipush (pc' := 31) dX6_init_29 (by decide) rfl ?_
  refine R_newa_int (len := 6) (pc' := 33) dX6_init_31 w_ac_int (by decide) (Nat.le_of_ble_eq_true rfl) (Nat.le_of_ble_eq_true rfl) (okR_mk (n := 63) (by decide)) (okR_mk (n := 63) (by decide)) rfl ?_
  refine W_new (n := 63) (k := 82) (xi := 63) (n1 := 64) (kc1 := 4) (ks1 := 24) h6 (by decide +kernel) (by decide +kernel) rfl rfl rfl rfl (fun c7 h7 => ?_)
  refine R_putfFr (j := 3) (len := 0) (pc' := 36) dX6_init_33 l_RX6_21 (isC_mk ⟨by decide, by decide⟩ (by decide +kernel)) fd6_3.1 fd6_3.2.1 fd6_3.2.2.2 rfl rfl fd6_3.2.2.1 (show (63 : Int) < ((64 : Nat) : Int) by decide) rfl ?_
  refine W_put (k := 82) (k1 := 83) h7 (by decide +kernel) (by decide +kernel) rfl (fun c8 h8 => ?_)
  refine R_aload_n (pc' := 37) dX6_init_36 rfl (by decide) rfl ?_
  refine R_bipush (pc' := 39) dX6_init_37 (by decide) rfl ?_
  refine R_newa_boolean (len := 6) (pc' := 41) dX6_init_39 w_ac_boolean (by decide) (Nat.le_of_ble_eq_true rfl) (Nat.le_of_ble_eq_true rfl) (okR_mk (n := 64) (by decide)) (okR_mk (n := 64) (by decide)) rfl ?_
  refine W_new (n := 64) (k := 83) (xi := 64) (n1 := 65) (kc1 := 5) (ks1 := 30) h8 (by decide +kernel) (by decide +kernel) rfl rfl rfl rfl (fun c9 h9 => ?_)
  refine R_putfFr (j := 4) (len := 0) (pc' := 44) dX6_init_41 l_RX6_24 (isC_mk ⟨by decide, by decide⟩ (by decide +kernel)) fd6_4.1 fd6_4.2.1 fd6_4.2.2.2 rfl rfl fd6_4.2.2.1 (show (64 : Int) < ((65 : Nat) : Int) by decide) rfl ?_
  refine W_put (k := 83) (k1 := 84) h9 (by decide +kernel) (by decide +kernel) rfl (fun c10 h10 => ?_)
  refine R_aload_n (pc' := 45) dX6_init_44 rfl (by decide) rfl ?_
  refine R_bipush (pc' := 47) dX6_init_45 (by decide) rfl ?_
  refine R_newa_boolean (len := 6) (pc' := 49) dX6_init_47 w_ac_boolean (by decide) (Nat.le_of_ble_eq_true rfl) (Nat.le_of_ble_eq_true rfl) (okR_mk (n := 65) (by decide)) (okR_mk (n := 65) (by decide)) rfl ?_
  refine W_new (n := 65) (k := 84) (xi := 65) (n1 := 66) (kc1 := 6) (ks1 := 36) h10 (by decide +kernel) (by decide +kernel) rfl rfl rfl rfl (fun c11 h11 => ?_)
  refine R_putfFr (j := 5) (len := 0) (pc' := 52) dX6_init_49 l_RX6_28 (isC_mk ⟨by decide, by decide⟩ (by decide +kernel)) fd6_5.1 fd6_5.2.1 fd6_5.2.2.2 rfl rfl fd6_5.2.2.1 (show (65 : Int) < ((66 : Nat) : Int) by decide) rfl ?_
  refine W_put (k := 84) (k1 := 85) h11 (by decide +kernel) (by decide +kernel) rfl (fun c12 h12 => ?_)
  refine R_aload_n (pc' := 53) dX6_init_52 rfl (by decide) rfl ?_
  refine R_bipush (pc' := 55) dX6_init_53 (by decide) rfl ?_
  refine R_newa_int (len := 24) (pc' := 57) dX6_init_55 w_ac_int (by decide) (Nat.le_of_ble_eq_true rfl) (Nat.le_of_ble_eq_true rfl) (okR_mk (n := 66) (by decide)) (okR_mk (n := 66) (by decide)) rfl ?_
  refine W_new (n := 66) (k := 85) (xi := 66) (n1 := 67) (kc1 := 7) (ks1 := 60) h12 (by decide +kernel) (by decide +kernel) rfl rfl rfl rfl (fun c13 h13 => ?_)
  refine R_putfFr (j := 6) (len := 0) (pc' := 60) dX6_init_57 l_RX6_31 (isC_mk ⟨by decide, by decide⟩ (by decide +kernel)) fd6_6.1 fd6_6.2.1 fd6_6.2.2.2 rfl rfl fd6_6.2.2.1 (show (66 : Int) < ((67 : Nat) : Int) by decide) rfl ?_
  refine W_put (k := 85) (k1 := 86) h13 (by decide +kernel) (by decide +kernel) rfl (fun c14 h14 => ?_)
  refine R_aload_n (pc' := 61) dX6_init_60 rfl (by decide) rfl ?_
  refine R_bipush (pc' := 63) dX6_init_61 (by decide) rfl ?_
  refine R_newa_int (len := 6) (pc' := 65) dX6_init_63 w_ac_int (by decide) (Nat.le_of_ble_eq_true rfl) (Nat.le_of_ble_eq_true rfl) (okR_mk (n := 67) (by decide)) (okR_mk (n := 67) (by decide)) rfl ?_
  refine W_new (n := 67) (k := 86) (xi := 67) (n1 := 68) (kc1 := 8) (ks1 := 66) h14 (by decide +kernel) (by decide +kernel) rfl rfl rfl rfl (fun c15 h15 => ?_)
  refine R_putfFr (j := 7) (len := 0) (pc' := 68) dX6_init_65 l_RX6_34 (isC_mk ⟨by decide, by decide⟩ (by decide +kernel)) fd6_7.1 fd6_7.2.1 fd6_7.2.2.2 rfl rfl fd6_7.2.2.1 (show (67 : Int) < ((68 : Nat) : Int) by decide) rfl ?_
  refine W_put (k := 86) (k1 := 87) h15 (by decide +kernel) (by decide +kernel) rfl (fun c16 h16 => ?_)
  refine R_aload_n (pc' := 69) dX6_init_68 rfl (by decide) rfl ?_
  refine R_bipush (pc' := 71) dX6_init_69 (by decide) rfl ?_
  refine R_newa_int (len := 36) (pc' := 73) dX6_init_71 w_ac_int (by decide) (Nat.le_of_ble_eq_true rfl) (Nat.le_of_ble_eq_true rfl) (okR_mk (n := 68) (by decide)) (okR_mk (n := 68) (by decide)) rfl ?_
  refine W_new (n := 68) (k := 87) (xi := 68) (n1 := 69) (kc1 := 9) (ks1 := 102) h16 (by decide +kernel) (by decide +kernel) rfl rfl rfl rfl (fun c17 h17 => ?_)
  refine R_putfFr (j := 8) (len := 0) (pc' := 76) dX6_init_73 l_RX6_37 (isC_mk ⟨by decide, by decide⟩ (by decide +kernel)) fd6_8.1 fd6_8.2.1 fd6_8.2.2.2 rfl rfl fd6_8.2.2.1 (show (68 : Int) < ((69 : Nat) : Int) by decide) rfl ?_
  refine W_put (k := 87) (k1 := 88) h17 (by decide +kernel) (by decide +kernel) rfl (fun c18 h18 => ?_)
  refine R_aload_n (pc' := 77) dX6_init_76 rfl (by decide) rfl ?_
  refine R_bipush (pc' := 79) dX6_init_77 (by decide) rfl ?_
  refine R_newa_int (len := 6) (pc' := 81) dX6_init_79 w_ac_int (by decide) (Nat.le_of_ble_eq_true rfl) (Nat.le_of_ble_eq_true rfl) (okR_mk (n := 69) (by decide)) (okR_mk (n := 69) (by decide)) rfl ?_
  refine W_new (n := 69) (k := 88) (xi := 69) (n1 := 70) (kc1 := 10) (ks1 := 108) h18 (by decide +kernel) (by decide +kernel) rfl rfl rfl rfl (fun c19 h19 => ?_)
  refine R_putfFr (j := 9) (len := 0) (pc' := 84) dX6_init_81 l_RX6_42 (isC_mk ⟨by decide, by decide⟩ (by decide +kernel)) fd6_9.1 fd6_9.2.1 fd6_9.2.2.2 rfl rfl fd6_9.2.2.1 (show (69 : Int) < ((70 : Nat) : Int) by decide) rfl ?_
  refine W_put (k := 88) (k1 := 89) h19 (by decide +kernel) (by decide +kernel) rfl (fun c20 h20 => ?_)
  refine R_aload_n (pc' := 85) dX6_init_84 rfl (by decide) rfl ?_
  refine R_aload_n (pc' := 86) dX6_init_85 rfl (by decide) rfl ?_
  refine R_putfr (j := 13) (len := 0) (pc' := 89) dX6_init_86 l_RX6_45 (isC_mk ⟨by decide, by decide⟩ (by decide +kernel)) fd6_13.1 fd6_13.2.1 fd6_13.2.2.2 fd6_13.2.2.1 (show (7 : Int) < ((70 : Nat) : Int) by decide) rfl ?_
  refine W_put (k := 89) (k1 := 90) h20 (by decide +kernel) (by decide +kernel) rfl (fun c21 h21 => ?_)
  refine R_iconst (pc' := 90) dX6_init_89 rfl ?_
  refine R_istore_n (L' := [(2, 59), (2, 7), (0, 0)]) (pc' := 91) dX6_init_90 (by decide) rfl rfl rfl ?_
  refine R_iload_n (pc' := 92) dX6_init_91 rfl rfl ?_
  refine R_bipush (pc' := 94) dX6_init_92 (by decide) rfl ?_
  refine R_icmp_ge (tgt := 110) (pc' := 97) dX6_init_94 (by decide) (ir_l (by decide) (by decide)) (ir_l (by decide) (by decide)) rfl (fun q => absurd q (by decide)) (fun _ => ?_)
  refine R_aload_n (pc' := 98) dX6_init_97 rfl (by decide) rfl ?_
  refine R_getfr (j := 7) (len := 0) (pc' := 101) dX6_init_98 l_RX6_34 (isC_mk ⟨by decide, by decide⟩ (by decide +kernel)) fd6_7.1 fd6_7.2.1 fd6_7.2.2.1 rfl ?_
  refine W_get (k := 90) (v := 67) h21 ⟨by decide, by decide, by decide⟩ (by decide +kernel) (by decide +kernel) ?_
  refine R_iload_n (pc' := 102) dX6_init_101 rfl rfl ?_
  refine R_iconst (pc' := 103) dX6_init_102 rfl ?_
  refine R_iastore (pc' := 104) dX6_init_103 (len := 6) (isC_mk ⟨by decide, by decide⟩ (by decide +kernel)) (by decide) (by decide) (by decide) rfl ?_
  refine W_put (k := 90) (k1 := 91) h21 (by decide +kernel) (by decide +kernel) rfl (fun c22 h22 => ?_)
  refine R_iinc (L' := [(2, 59), (2, 7), (0, 1)]) (pc' := 107) dX6_init_104 rfl (by decide) rfl rfl rfl ?_
  refine R_goto (tgt := 91) dX6_init_107 (by decide) ?_
  refine R_iload_n (pc' := 92) dX6_init_91 rfl rfl ?_
  refine R_bipush (pc' := 94) dX6_init_92 (by decide) rfl ?_
  refine R_icmp_ge (tgt := 110) (pc' := 97) dX6_init_94 (by decide) (ir_l (by decide) (by decide)) (ir_l (by decide) (by decide)) rfl (fun q => absurd q (by decide)) (fun _ => ?_)
  refine R_aload_n (pc' := 98) dX6_init_97 rfl (by decide) rfl ?_
  refine R_getfr (j := 7) (len := 0) (pc' := 101) dX6_init_98 l_RX6_34 (isC_mk ⟨by decide, by decide⟩ (by decide +kernel)) fd6_7.1 fd6_7.2.1 fd6_7.2.2.1 rfl ?_
  refine W_get (k := 91) (v := 67) h22 ⟨by decide, by decide, by decide⟩ (by decide +kernel) (by decide +kernel) ?_
  refine R_iload_n (pc' := 102) dX6_init_101 rfl rfl ?_
  refine R_iconst (pc' := 103) dX6_init_102 rfl ?_
  refine R_iastore (pc' := 104) dX6_init_103 (len := 6) (isC_mk ⟨by decide, by decide⟩ (by decide +kernel)) (by decide) (by decide) (by decide) rfl ?_
  refine W_put (k := 91) (k1 := 92) h22 (by decide +kernel) (by decide +kernel) rfl (fun c23 h23 => ?_)
  refine R_iinc (L' := [(2, 59), (2, 7), (0, 2)]) (pc' := 107) dX6_init_104 rfl (by decide) rfl rfl rfl ?_
  refine R_goto (tgt := 91) dX6_init_107 (by decide) ?_
  refine R_iload_n (pc' := 92) dX6_init_91 rfl rfl ?_
  refine R_bipush (pc' := 94) dX6_init_92 (by decide) rfl ?_
  refine R_icmp_ge (tgt := 110) (pc' := 97) dX6_init_94 (by decide) (ir_l (by decide) (by decide)) (ir_l (by decide) (by decide)) rfl (fun q => absurd q (by decide)) (fun _ => ?_)
  refine R_aload_n (pc' := 98) dX6_init_97 rfl (by decide) rfl ?_
  refine R_getfr (j := 7) (len := 0) (pc' := 101) dX6_init_98 l_RX6_34 (isC_mk ⟨by decide, by decide⟩ (by decide +kernel)) fd6_7.1 fd6_7.2.1 fd6_7.2.2.1 rfl ?_
  refine W_get (k := 92) (v := 67) h23 ⟨by decide, by decide, by decide⟩ (by decide +kernel) (by decide +kernel) ?_
  refine R_iload_n (pc' := 102) dX6_init_101 rfl rfl ?_
  refine R_iconst (pc' := 103) dX6_init_102 rfl ?_
  refine R_iastore (pc' := 104) dX6_init_103 (len := 6) (isC_mk ⟨by decide, by decide⟩ (by decide +kernel)) (by decide) (by decide) (by decide) rfl ?_
  refine W_put (k := 92) (k1 := 93) h23 (by decide +kernel) (by decide +kernel) rfl (fun c24 h24 => ?_)
  refine R_iinc (L' := [(2, 59), (2, 7), (0, 3)]) (pc' := 107) dX6_init_104 rfl (by decide) rfl rfl rfl ?_
  refine R_goto (tgt := 91) dX6_init_107 (by decide) ?_
  refine R_iload_n (pc' := 92) dX6_init_91 rfl rfl ?_
  refine R_bipush (pc' := 94) dX6_init_92 (by decide) rfl ?_
  refine R_icmp_ge (tgt := 110) (pc' := 97) dX6_init_94 (by decide) (ir_l (by decide) (by decide)) (ir_l (by decide) (by decide)) rfl (fun q => absurd q (by decide)) (fun _ => ?_)
  refine R_aload_n (pc' := 98) dX6_init_97 rfl (by decide) rfl ?_
  refine R_getfr (j := 7) (len := 0) (pc' := 101) dX6_init_98 l_RX6_34 (isC_mk ⟨by decide, by decide⟩ (by decide +kernel)) fd6_7.1 fd6_7.2.1 fd6_7.2.2.1 rfl ?_
  refine W_get (k := 93) (v := 67) h24 ⟨by decide, by decide, by decide⟩ (by decide +kernel) (by decide +kernel) ?_
  refine R_iload_n (pc' := 102) dX6_init_101 rfl rfl ?_
  refine R_iconst (pc' := 103) dX6_init_102 rfl ?_
  refine R_iastore (pc' := 104) dX6_init_103 (len := 6) (isC_mk ⟨by decide, by decide⟩ (by decide +kernel)) (by decide) (by decide) (by decide) rfl ?_
  refine W_put (k := 93) (k1 := 94) h24 (by decide +kernel) (by decide +kernel) rfl (fun c25 h25 => ?_)
  refine R_iinc (L' := [(2, 59), (2, 7), (0, 4)]) (pc' := 107) dX6_init_104 rfl (by decide) rfl rfl rfl ?_
  refine R_goto (tgt := 91) dX6_init_107 (by decide) ?_
  refine R_iload_n (pc' := 92) dX6_init_91 rfl rfl ?_
  refine R_bipush (pc' := 94) dX6_init_92 (by decide) rfl ?_
  refine R_icmp_ge (tgt := 110) (pc' := 97) dX6_init_94 (by decide) (ir_l (by decide) (by decide)) (ir_l (by decide) (by decide)) rfl (fun q => absurd q (by decide)) (fun _ => ?_)
  refine R_aload_n (pc' := 98) dX6_init_97 rfl (by decide) rfl ?_
  refine R_getfr (j := 7) (len := 0) (pc' := 101) dX6_init_98 l_RX6_34 (isC_mk ⟨by decide, by decide⟩ (by decide +kernel)) fd6_7.1 fd6_7.2.1 fd6_7.2.2.1 rfl ?_
  refine W_get (k := 94) (v := 67) h25 ⟨by decide, by decide, by decide⟩ (by decide +kernel) (by decide +kernel) ?_
  refine R_iload_n (pc' := 102) dX6_init_101 rfl rfl ?_
  refine R_iconst (pc' := 103) dX6_init_102 rfl ?_
  refine R_iastore (pc' := 104) dX6_init_103 (len := 6) (isC_mk ⟨by decide, by decide⟩ (by decide +kernel)) (by decide) (by decide) (by decide) rfl ?_
  refine W_put (k := 94) (k1 := 95) h25 (by decide +kernel) (by decide +kernel) rfl (fun c26 h26 => ?_)
  refine R_iinc (L' := [(2, 59), (2, 7), (0, 5)]) (pc' := 107) dX6_init_104 rfl (by decide) rfl rfl rfl ?_
  refine R_goto (tgt := 91) dX6_init_107 (by decide) ?_
  refine R_iload_n (pc' := 92) dX6_init_91 rfl rfl ?_
  refine R_bipush (pc' := 94) dX6_init_92 (by decide) rfl ?_
  refine R_icmp_ge (tgt := 110) (pc' := 97) dX6_init_94 (by decide) (ir_l (by decide) (by decide)) (ir_l (by decide) (by decide)) rfl (fun q => absurd q (by decide)) (fun _ => ?_)
  refine R_aload_n (pc' := 98) dX6_init_97 rfl (by decide) rfl ?_
  refine R_getfr (j := 7) (len := 0) (pc' := 101) dX6_init_98 l_RX6_34 (isC_mk ⟨by decide, by decide⟩ (by decide +kernel)) fd6_7.1 fd6_7.2.1 fd6_7.2.2.1 rfl ?_
  refine W_get (k := 95) (v := 67) h26 ⟨by decide, by decide, by decide⟩ (by decide +kernel) (by decide +kernel) ?_
  refine R_iload_n (pc' := 102) dX6_init_101 rfl rfl ?_
  refine R_iconst (pc' := 103) dX6_init_102 rfl ?_
  refine R_iastore (pc' := 104) dX6_init_103 (len := 6) (isC_mk ⟨by decide, by decide⟩ (by decide +kernel)) (by decide) (by decide) (by decide) rfl ?_
  refine W_put (k := 95) (k1 := 96) h26 (by decide +kernel) (by decide +kernel) rfl (fun c27 h27 => ?_)
  refine R_iinc (L' := [(2, 59), (2, 7), (0, 6)]) (pc' := 107) dX6_init_104 rfl (by decide) rfl rfl rfl ?_
  refine R_goto (tgt := 91) dX6_init_107 (by decide) ?_
  refine R_iload_n (pc' := 92) dX6_init_91 rfl rfl ?_
  refine R_bipush (pc' := 94) dX6_init_92 (by decide) rfl ?_
  refine R_icmp_ge (tgt := 110) (pc' := 97) dX6_init_94 (by decide) (ir_l (by decide) (by decide)) (ir_l (by decide) (by decide)) rfl (fun _ => ?_) (fun q => absurd (by decide) q)
  exact R_ret dX6_init_110 rfl (Nat.le_of_ble_eq_true rfl) (Nat.le_of_ble_eq_true rfl) (hQ c27 h27)
set_option maxRecDepth 100000 in
theorem i_X3_70 {K : SK} {d : Nat} {c : ct} {Q : hp → av → Prop} (h : OKc 71 97 c) (hQ : ∀ c', OKc 72 99 c' → Q (72, SH, c') (8, 0)) : CM K (d + 1) mX3_init [(2, 70), (2, 59)] (71, SH, c) Q := by
  refine CM_ofS (by decide) (Nat.le_of_ble_eq_true rfl) [(2, 70), (2, 59)] rfl ?_
  refine R_aload_n (pc' := 1) dX3_init_0 rfl (by decide) rfl ?_
  refine R_objInit (pc' := 4) dX3_init_1 (by decide) (by omega) (by decide) l_RX3_3 w_oi w_oc rfl ?_
  refine R_aload_n (pc' := 5) dX3_init_4 rfl (by decide) rfl ?_
  refine R_bipush (pc' := 7) dX3_init_5 (by decide) rfl ?_
  refine R_newa_int (len := 6) (pc' := 9) dX3_init_7 w_ac_int (by decide) (Nat.le_of_ble_eq_true rfl) (Nat.le_of_ble_eq_true rfl) (okR_mk (n := 71) (by decide)) (okR_mk (n := 71) (by decide)) rfl ?_
  refine W_new (n := 71) (k := 97) (xi := 71) (n1 := 72) (kc1 := 1) (ks1 := 6) h (by decide +kernel) (by decide +kernel) rfl rfl rfl rfl (fun c1 h1 => ?_)
  refine R_putfFr (j := 1) (len := 0) (pc' := 12) dX3_init_9 l_RX3_9 (isC_mk ⟨by decide, by decide⟩ (by decide +kernel)) fd3_1.1 fd3_1.2.1 fd3_1.2.2.2 rfl rfl fd3_1.2.2.1 (show (71 : Int) < ((72 : Nat) : Int) by decide) rfl ?_
  refine W_put (k := 97) (k1 := 98) h1 (by decide +kernel) (by decide +kernel) rfl (fun c2 h2 => ?_)
  refine R_aload_n (pc' := 13) dX3_init_12 rfl (by decide) rfl ?_
  refine R_aload_n (pc' := 14) dX3_init_13 rfl (by decide) rfl ?_
  refine R_putfFr (j := 0) (len := 0) (pc' := 17) dX3_init_14 l_RX3_15 (isC_mk ⟨by decide, by decide⟩ (by decide +kernel)) fd3_0.1 fd3_0.2.1 fd3_0.2.2.2 rfl rfl fd3_0.2.2.1 (show (59 : Int) < ((72 : Nat) : Int) by decide) rfl ?_
  refine W_put (k := 98) (k1 := 99) h2 (by decide +kernel) (by decide +kernel) rfl (fun c3 h3 => ?_)
  exact R_ret dX3_init_17 rfl (Nat.le_of_ble_eq_true rfl) (Nat.le_of_ble_eq_true rfl) (hQ c3 h3)
set_option maxRecDepth 100000 in
theorem i_X2_72 {K : SK} {d : Nat} {c : ct} {Q : hp → av → Prop} (h : OKc 73 100 c) (hQ : ∀ c', OKc 76 105 c' → Q (76, SH, c') (8, 0)) : CM K (d + 1) mX2_init [(2, 72)] (73, SH, c) Q := by
  refine CM_ofS (by decide) (Nat.le_of_ble_eq_true rfl) [(2, 72)] rfl ?_
  refine R_aload_n (pc' := 1) dX2_init_0 rfl (by decide) rfl ?_
  refine R_objInit (pc' := 4) dX2_init_1 (by decide) (by omega) (by decide) l_RX2_3 w_oi w_oc rfl ?_
  refine R_aload_n (pc' := 5) dX2_init_4 rfl (by decide) rfl ?_
  refine R_bipush (pc' := 7) dX2_init_5 (by decide) rfl ?_
  refine R_newa_int (len := 100) (pc' := 9) dX2_init_7 w_ac_int (by decide) (Nat.le_of_ble_eq_true rfl) (Nat.le_of_ble_eq_true rfl) (okR_mk (n := 73) (by decide)) (okR_mk (n := 73) (by decide)) rfl ?_
  refine W_new (n := 73) (k := 100) (xi := 73) (n1 := 74) (kc1 := 1) (ks1 := 100) h (by decide +kernel) (by decide +kernel) rfl rfl rfl rfl (fun c1 h1 => ?_)
  refine R_putfFr (j := 0) (len := 0) (pc' := 12) dX2_init_9 l_RX2_9 (isC_mk ⟨by decide, by decide⟩ (by decide +kernel)) fd2_0.1 fd2_0.2.1 fd2_0.2.2.2 rfl rfl fd2_0.2.2.1 (show (73 : Int) < ((74 : Nat) : Int) by decide) rfl ?_
  refine W_put (k := 100) (k1 := 101) h1 (by decide +kernel) (by decide +kernel) rfl (fun c2 h2 => ?_)
  refine R_aload_n (pc' := 13) dX2_init_12 rfl (by decide) rfl ?_
  refine R_bipush (pc' := 15) dX2_init_13 (by decide) rfl ?_
  refine R_newa_int (len := 10) (pc' := 17) dX2_init_15 w_ac_int (by decide) (Nat.le_of_ble_eq_true rfl) (Nat.le_of_ble_eq_true rfl) (okR_mk (n := 74) (by decide)) (okR_mk (n := 74) (by decide)) rfl ?_
  refine W_new (n := 74) (k := 101) (xi := 74) (n1 := 75) (kc1 := 2) (ks1 := 110) h2 (by decide +kernel) (by decide +kernel) rfl rfl rfl rfl (fun c3 h3 => ?_)
  refine R_putfFr (j := 2) (len := 0) (pc' := 20) dX2_init_17 l_RX2_15 (isC_mk ⟨by decide, by decide⟩ (by decide +kernel)) fd2_2.1 fd2_2.2.1 fd2_2.2.2.2 rfl rfl fd2_2.2.2.1 (show (74 : Int) < ((75 : Nat) : Int) by decide) rfl ?_
  refine W_put (k := 101) (k1 := 102) h3 (by decide +kernel) (by decide +kernel) rfl (fun c4 h4 => ?_)
  refine R_aload_n (pc' := 21) dX2_init_20 rfl (by decide) rfl ?_
  refine R_bipush (pc' := 23) dX2_init_21 (by decide) rfl ?_
  refine R_newa_int (len := 10) (pc' := 25) dX2_init_23 w_ac_int (by decide) (Nat.le_of_ble_eq_true rfl) (Nat.le_of_ble_eq_true rfl) (okR_mk (n := 75) (by decide)) (okR_mk (n := 75) (by decide)) rfl ?_
  refine W_new (n := 75) (k := 102) (xi := 75) (n1 := 76) (kc1 := 3) (ks1 := 120) h4 (by decide +kernel) (by decide +kernel) rfl rfl rfl rfl (fun c5 h5 => ?_)
  refine R_putfFr (j := 3) (len := 0) (pc' := 28) dX2_init_25 l_RX2_18 (isC_mk ⟨by decide, by decide⟩ (by decide +kernel)) fd2_3.1 fd2_3.2.1 fd2_3.2.2.2 rfl rfl fd2_3.2.2.1 (show (75 : Int) < ((76 : Nat) : Int) by decide) rfl ?_
  refine W_put (k := 102) (k1 := 103) h5 (by decide +kernel) (by decide +kernel) rfl (fun c6 h6 => ?_)
  refine R_aload_n (pc' := 29) dX2_init_28 rfl (by decide) rfl ?_
  refine R_iconst (pc' := 30) dX2_init_29 rfl ?_
  refine R_putfi (j := 5) (len := 0) (pc' := 33) dX2_init_30 l_RX2_21 (isC_mk ⟨by decide, by decide⟩ (by decide +kernel)) fd2_5.1 fd2_5.2.1 fd2_5.2.2.2.1 fd2_5.2.2.2.2 rfl ?_
  refine W_put (k := 103) (k1 := 104) h6 (by decide +kernel) (by decide +kernel) rfl (fun c7 h7 => ?_)
  refine R_aload_n (pc' := 34) dX2_init_33 rfl (by decide) rfl ?_
  refine R_bipush (pc' := 36) dX2_init_34 (by decide) rfl ?_
  refine R_putfi (j := 6) (len := 0) (pc' := 39) dX2_init_36 l_RX2_25 (isC_mk ⟨by decide, by decide⟩ (by decide +kernel)) fd2_6.1 fd2_6.2.1 fd2_6.2.2.2.1 fd2_6.2.2.2.2 rfl ?_
  refine W_put (k := 104) (k1 := 105) h7 (by decide +kernel) (by decide +kernel) rfl (fun c8 h8 => ?_)
  exact R_ret dX2_init_39 rfl (Nat.le_of_ble_eq_true rfl) (Nat.le_of_ble_eq_true rfl) (hQ c8 h8)
set_option maxRecDepth 100000 in
theorem i_X2_76 {K : SK} {d : Nat} {c : ct} {Q : hp → av → Prop} (h : OKc 77 106 c) (hQ : ∀ c', OKc 80 111 c' → Q (80, SH, c') (8, 0)) : CM K (d + 1) mX2_init [(2, 76)] (77, SH, c) Q := by
  refine CM_ofS (by decide) (Nat.le_of_ble_eq_true rfl) [(2, 76)] rfl ?_
  refine R_aload_n (pc' := 1) dX2_init_0 rfl (by decide) rfl ?_
  refine R_objInit (pc' := 4) dX2_init_1 (by decide) (by omega) (by decide) l_RX2_3 w_oi w_oc rfl ?_
  refine R_aload_n (pc' := 5) dX2_init_4 rfl (by decide) rfl ?_
  refine R_bipush (pc' := 7) dX2_init_5 (by decide) rfl ?_
  refine R_newa_int (len := 100) (pc' := 9) dX2_init_7 w_ac_int (by decide) (Nat.le_of_ble_eq_true rfl) (Nat.le_of_ble_eq_true rfl) (okR_mk (n := 77) (by decide)) (okR_mk (n := 77) (by decide)) rfl ?_
  refine W_new (n := 77) (k := 106) (xi := 77) (n1 := 78) (kc1 := 1) (ks1 := 100) h (by decide +kernel) (by decide +kernel) rfl rfl rfl rfl (fun c1 h1 => ?_)
  refine R_putfFr (j := 0) (len := 0) (pc' := 12) dX2_init_9 l_RX2_9 (isC_mk ⟨by decide, by decide⟩ (by decide +kernel)) fd2_0.1 fd2_0.2.1 fd2_0.2.2.2 rfl rfl fd2_0.2.2.1 (show (77 : Int) < ((78 : Nat) : Int) by decide) rfl ?_
  refine W_put (k := 106) (k1 := 107) h1 (by decide +kernel) (by decide +kernel) rfl (fun c2 h2 => ?_)
  refine R_aload_n (pc' := 13) dX2_init_12 rfl (by decide) rfl ?_
  refine R_bipush (pc' := 15) dX2_init_13 (by decide) rfl ?_
  refine R_newa_int (len := 10) (pc' := 17) dX2_init_15 w_ac_int (by decide) (Nat.le_of_ble_eq_true rfl) (Nat.le_of_ble_eq_true rfl) (okR_mk (n := 78) (by decide)) (okR_mk (n := 78) (by decide)) rfl ?_
  refine W_new (n := 78) (k := 107) (xi := 78) (n1 := 79) (kc1 := 2) (ks1 := 110) h2 (by decide +kernel) (by decide +kernel) rfl rfl rfl rfl (fun c3 h3 => ?_)
  refine R_putfFr (j := 2) (len := 0) (pc' := 20) dX2_init_17 l_RX2_15 (isC_mk ⟨by decide, by decide⟩ (by decide +kernel)) fd2_2.1 fd2_2.2.1 fd2_2.2.2.2 rfl rfl fd2_2.2.2.1 (show (78 : Int) < ((79 : Nat) : Int) by decide) rfl ?_
  refine W_put (k := 107) (k1 := 108) h3 (by decide +kernel) (by decide +kernel) rfl (fun c4 h4 => ?_)
  refine R_aload_n (pc' := 21) dX2_init_20 rfl (by decide) rfl ?_
  refine R_bipush (pc' := 23) dX2_init_21 (by decide) rfl ?_
  refine R_newa_int (len := 10) (pc' := 25) dX2_init_23 w_ac_int (by decide) (Nat.le_of_ble_eq_true rfl) (Nat.le_of_ble_eq_true rfl) (okR_mk (n := 79) (by decide)) (okR_mk (n := 79) (by decide)) rfl ?_
  refine W_new (n := 79) (k := 108) (xi := 79) (n1 := 80) (kc1 := 3) (ks1 := 120) h4 (by decide +kernel) (by decide +kernel) rfl rfl rfl rfl (fun c5 h5 => ?_)
  refine R_putfFr (j := 3) (len := 0) (pc' := 28) dX2_init_25 l_RX2_18 (isC_mk ⟨by decide, by decide⟩ (by decide +kernel)) fd2_3.1 fd2_3.2.1 fd2_3.2.2.2 rfl rfl fd2_3.2.2.1 (show (79 : Int) < ((80 : Nat) : Int) by decide) rfl ?_
  refine W_put (k := 108) (k1 := 109) h5 (by decide +kernel) (by decide +kernel) rfl (fun c6 h6 => ?_)
  refine R_aload_n (pc' := 29) dX2_init_28 rfl (by decide) rfl ?_
  refine R_iconst (pc' := 30) dX2_init_29 rfl ?_
  refine R_putfi (j := 5) (len := 0) (pc' := 33) dX2_init_30 l_RX2_21 (isC_mk ⟨by decide, by decide⟩ (by decide +kernel)) fd2_5.1 fd2_5.2.1 fd2_5.2.2.2.1 fd2_5.2.2.2.2 rfl ?_
  refine W_put (k := 109) (k1 := 110) h6 (by decide +kernel) (by decide +kernel) rfl (fun c7 h7 => ?_)
  refine R_aload_n (pc' := 34) dX2_init_33 rfl (by decide) rfl ?_
  refine R_bipush (pc' := 36) dX2_init_34 (by decide) rfl ?_
  refine R_putfi (j := 6) (len := 0) (pc' := 39) dX2_init_36 l_RX2_25 (isC_mk ⟨by decide, by decide⟩ (by decide +kernel)) fd2_6.1 fd2_6.2.1 fd2_6.2.2.2.1 fd2_6.2.2.2.2 rfl ?_
  refine W_put (k := 110) (k1 := 111) h7 (by decide +kernel) (by decide +kernel) rfl (fun c8 h8 => ?_)
  exact R_ret dX2_init_39 rfl (Nat.le_of_ble_eq_true rfl) (Nat.le_of_ble_eq_true rfl) (hQ c8 h8)
set_option maxRecDepth 100000 in
theorem i_X2_80 {K : SK} {d : Nat} {c : ct} {Q : hp → av → Prop} (h : OKc 81 112 c) (hQ : ∀ c', OKc 84 117 c' → Q (84, SH, c') (8, 0)) : CM K (d + 1) mX2_init [(2, 80)] (81, SH, c) Q := by
  refine CM_ofS (by decide) (Nat.le_of_ble_eq_true rfl) [(2, 80)] rfl ?_
  refine R_aload_n (pc' := 1) dX2_init_0 rfl (by decide) rfl ?_
  refine R_objInit (pc' := 4) dX2_init_1 (by decide) (by omega) (by decide) l_RX2_3 w_oi w_oc rfl ?_
  refine R_aload_n (pc' := 5) dX2_init_4 rfl (by decide) rfl ?_
  refine R_bipush (pc' := 7) dX2_init_5 (by decide) rfl ?_
  refine R_newa_int (len := 100) (pc' := 9) dX2_init_7 w_ac_int (by decide) (Nat.le_of_ble_eq_true rfl) (Nat.le_of_ble_eq_true rfl) (okR_mk (n := 81) (by decide)) (okR_mk (n := 81) (by decide)) rfl ?_
  refine W_new (n := 81) (k := 112) (xi := 81) (n1 := 82) (kc1 := 1) (ks1 := 100) h (by decide +kernel) (by decide +kernel) rfl rfl rfl rfl (fun c1 h1 => ?_)
  refine R_putfFr (j := 0) (len := 0) (pc' := 12) dX2_init_9 l_RX2_9 (isC_mk ⟨by decide, by decide⟩ (by decide +kernel)) fd2_0.1 fd2_0.2.1 fd2_0.2.2.2 rfl rfl fd2_0.2.2.1 (show (81 : Int) < ((82 : Nat) : Int) by decide) rfl ?_
  refine W_put (k := 112) (k1 := 113) h1 (by decide +kernel) (by decide +kernel) rfl (fun c2 h2 => ?_)
  refine R_aload_n (pc' := 13) dX2_init_12 rfl (by decide) rfl ?_
  refine R_bipush (pc' := 15) dX2_init_13 (by decide) rfl ?_
  refine R_newa_int (len := 10) (pc' := 17) dX2_init_15 w_ac_int (by decide) (Nat.le_of_ble_eq_true rfl) (Nat.le_of_ble_eq_true rfl) (okR_mk (n := 82) (by decide)) (okR_mk (n := 82) (by decide)) rfl ?_
  refine W_new (n := 82) (k := 113) (xi := 82) (n1 := 83) (kc1 := 2) (ks1 := 110) h2 (by decide +kernel) (by decide +kernel) rfl rfl rfl rfl (fun c3 h3 => ?_)
  refine R_putfFr (j := 2) (len := 0) (pc' := 20) dX2_init_17 l_RX2_15 (isC_mk ⟨by decide, by decide⟩ (by decide +kernel)) fd2_2.1 fd2_2.2.1 fd2_2.2.2.2 rfl rfl fd2_2.2.2.1 (show (82 : Int) < ((83 : Nat) : Int) by decide) rfl ?_
  refine W_put (k := 113) (k1 := 114) h3 (by decide +kernel) (by decide +kernel) rfl (fun c4 h4 => ?_)
  refine R_aload_n (pc' := 21) dX2_init_20 rfl (by decide) rfl ?_
  refine R_bipush (pc' := 23) dX2_init_21 (by decide) rfl ?_
  refine R_newa_int (len := 10) (pc' := 25) dX2_init_23 w_ac_int (by decide) (Nat.le_of_ble_eq_true rfl) (Nat.le_of_ble_eq_true rfl) (okR_mk (n := 83) (by decide)) (okR_mk (n := 83) (by decide)) rfl ?_
  refine W_new (n := 83) (k := 114) (xi := 83) (n1 := 84) (kc1 := 3) (ks1 := 120) h4 (by decide +kernel) (by decide +kernel) rfl rfl rfl rfl (fun c5 h5 => ?_)
  refine R_putfFr (j := 3) (len := 0) (pc' := 28) dX2_init_25 l_RX2_18 (isC_mk ⟨by decide, by decide⟩ (by decide +kernel)) fd2_3.1 fd2_3.2.1 fd2_3.2.2.2 rfl rfl fd2_3.2.2.1 (show (83 : Int) < ((84 : Nat) : Int) by decide) rfl ?_
  refine W_put (k := 114) (k1 := 115) h5 (by decide +kernel) (by decide +kernel) rfl (fun c6 h6 => ?_)
  refine R_aload_n (pc' := 29) dX2_init_28 rfl (by decide) rfl ?_
  refine R_iconst (pc' := 30) dX2_init_29 rfl ?_
  refine R_putfi (j := 5) (len := 0) (pc' := 33) dX2_init_30 l_RX2_21 (isC_mk ⟨by decide, by decide⟩ (by decide +kernel)) fd2_5.1 fd2_5.2.1 fd2_5.2.2.2.1 fd2_5.2.2.2.2 rfl ?_
  refine W_put (k := 115) (k1 := 116) h6 (by decide +kernel) (by decide +kernel) rfl (fun c7 h7 => ?_)
  refine R_aload_n (pc' := 34) dX2_init_33 rfl (by decide) rfl ?_
  refine R_bipush (pc' := 36) dX2_init_34 (by decide) rfl ?_
  refine R_putfi (j := 6) (len := 0) (pc' := 39) dX2_init_36 l_RX2_25 (isC_mk ⟨by decide, by decide⟩ (by decide +kernel)) fd2_6.1 fd2_6.2.1 fd2_6.2.2.2.1 fd2_6.2.2.2.2 rfl ?_
  refine W_put (k := 116) (k1 := 117) h7 (by decide +kernel) (by decide +kernel) rfl (fun c8 h8 => ?_)
  exact R_ret dX2_init_39 rfl (Nat.le_of_ble_eq_true rfl) (Nat.le_of_ble_eq_true rfl) (hQ c8 h8)
set_option maxRecDepth 100000 in
theorem i_X2_84 {K : SK} {d : Nat} {c : ct} {Q : hp → av → Prop} (h : OKc 85 118 c) (hQ : ∀ c', OKc 88 123 c' → Q (88, SH, c') (8, 0)) : CM K (d + 1) mX2_init [(2, 84)] (85, SH, c) Q := by
  refine CM_ofS (by decide) (Nat.le_of_ble_eq_true rfl) [(2, 84)] rfl ?_
  refine R_aload_n (pc' := 1) dX2_init_0 rfl (by decide) rfl ?_
  refine R_objInit (pc' := 4) dX2_init_1 (by decide) (by omega) (by decide) l_RX2_3 w_oi w_oc rfl ?_
  refine R_aload_n (pc' := 5) dX2_init_4 rfl (by decide) rfl ?_
  refine R_bipush (pc' := 7) dX2_init_5 (by decide) rfl ?_
  refine R_newa_int (len := 100) (pc' := 9) dX2_init_7 w_ac_int (by decide) (Nat.le_of_ble_eq_true rfl) (Nat.le_of_ble_eq_true rfl) (okR_mk (n := 85) (by decide)) (okR_mk (n := 85) (by decide)) rfl ?_
  refine W_new (n := 85) (k := 118) (xi := 85) (n1 := 86) (kc1 := 1) (ks1 := 100) h (by decide +kernel) (by decide +kernel) rfl rfl rfl rfl (fun c1 h1 => ?_)
  refine R_putfFr (j := 0) (len := 0) (pc' := 12) dX2_init_9 l_RX2_9 (isC_mk ⟨by decide, by decide⟩ (by decide +kernel)) fd2_0.1 fd2_0.2.1 fd2_0.2.2.2 rfl rfl fd2_0.2.2.1 (show (85 : Int) < ((86 : Nat) : Int) by decide) rfl ?_
  refine W_put (k := 118) (k1 := 119) h1 (by decide +kernel) (by decide +kernel) rfl (fun c2 h2 => ?_)
  refine R_aload_n (pc' := 13) dX2_init_12 rfl (by decide) rfl ?_
  refine R_bipush (pc' := 15) dX2_init_13 (by decide) rfl ?_
  refine R_newa_int (len := 10) (pc' := 17) dX2_init_15 w_ac_int (by decide) (Nat.le_of_ble_eq_true rfl) (Nat.le_of_ble_eq_true rfl) (okR_mk (n := 86) (by decide)) (okR_mk (n := 86) (by decide)) rfl ?_
  refine W_new (n := 86) (k := 119) (xi := 86) (n1 := 87) (kc1 := 2) (ks1 := 110) h2 (by decide +kernel) (by decide +kernel) rfl rfl rfl rfl (fun c3 h3 => ?_)
  refine R_putfFr (j := 2) (len := 0) (pc' := 20) dX2_init_17 l_RX2_15 (isC_mk ⟨by decide, by decide⟩ (by decide +kernel)) fd2_2.1 fd2_2.2.1 fd2_2.2.2.2 rfl rfl fd2_2.2.2.1 (show (86 : Int) < ((87 : Nat) : Int) by decide) rfl ?_
  refine W_put (k := 119) (k1 := 120) h3 (by decide +kernel) (by decide +kernel) rfl (fun c4 h4 => ?_)
  refine R_aload_n (pc' := 21) dX2_init_20 rfl (by decide) rfl ?_
  refine R_bipush (pc' := 23) dX2_init_21 (by decide) rfl ?_
  refine R_newa_int (len := 10) (pc' := 25) dX2_init_23 w_ac_int (by decide) (Nat.le_of_ble_eq_true rfl) (Nat.le_of_ble_eq_true rfl) (okR_mk (n := 87) (by decide)) (okR_mk (n := 87) (by decide)) rfl ?_
  refine W_new (n := 87) (k := 120) (xi := 87) (n1 := 88) (kc1 := 3) (ks1 := 120) h4 (by decide +kernel) (by decide +kernel) rfl rfl rfl rfl (fun c5 h5 => ?_)
  refine R_putfFr (j := 3) (len := 0) (pc' := 28) dX2_init_25 l_RX2_18 (isC_mk ⟨by decide, by decide⟩ (by decide +kernel)) fd2_3.1 fd2_3.2.1 fd2_3.2.2.2 rfl rfl fd2_3.2.2.1 (show (87 : Int) < ((88 : Nat) : Int) by decide) rfl ?_
  refine W_put (k := 120) (k1 := 121) h5 (by decide +kernel) (by decide +kernel) rfl (fun c6 h6 => ?_)
  refine R_aload_n (pc' := 29) dX2_init_28 rfl (by decide) rfl ?_
  refine R_iconst (pc' := 30) dX2_init_29 rfl ?_
  refine R_putfi (j := 5) (len := 0) (pc' := 33) dX2_init_30 l_RX2_21 (isC_mk ⟨by decide, by decide⟩ (by decide +kernel)) fd2_5.1 fd2_5.2.1 fd2_5.2.2.2.1 fd2_5.2.2.2.2 rfl ?_
  refine W_put (k := 121) (k1 := 122) h6 (by decide +kernel) (by decide +kernel) rfl (fun c7 h7 => ?_)
  refine R_aload_n (pc' := 34) dX2_init_33 rfl (by decide) rfl ?_
  refine R_bipush (pc' := 36) dX2_init_34 (by decide) rfl ?_
  refine R_putfi (j := 6) (len := 0) (pc' := 39) dX2_init_36 l_RX2_25 (isC_mk ⟨by decide, by decide⟩ (by decide +kernel)) fd2_6.1 fd2_6.2.1 fd2_6.2.2.2.1 fd2_6.2.2.2.2 rfl ?_
  refine W_put (k := 122) (k1 := 123) h7 (by decide +kernel) (by decide +kernel) rfl (fun c8 h8 => ?_)
  exact R_ret dX2_init_39 rfl (Nat.le_of_ble_eq_true rfl) (Nat.le_of_ble_eq_true rfl) (hQ c8 h8)
set_option maxRecDepth 100000 in
theorem i_X2_88 {K : SK} {d : Nat} {c : ct} {Q : hp → av → Prop} (h : OKc 89 124 c) (hQ : ∀ c', OKc 92 129 c' → Q (92, SH, c') (8, 0)) : CM K (d + 1) mX2_init [(2, 88)] (89, SH, c) Q := by
  refine CM_ofS (by decide) (Nat.le_of_ble_eq_true rfl) [(2, 88)] rfl ?_
  refine R_aload_n (pc' := 1) dX2_init_0 rfl (by decide) rfl ?_
  refine R_objInit (pc' := 4) dX2_init_1 (by decide) (by omega) (by decide) l_RX2_3 w_oi w_oc rfl ?_
  refine R_aload_n (pc' := 5) dX2_init_4 rfl (by decide) rfl ?_
  refine R_bipush (pc' := 7) dX2_init_5 (by decide) rfl ?_
  refine R_newa_int (len := 100) (pc' := 9) dX2_init_7 w_ac_int (by decide) (Nat.le_of_ble_eq_true rfl) (Nat.le_of_ble_eq_true rfl) (okR_mk (n := 89) (by decide)) (okR_mk (n := 89) (by decide)) rfl ?_
  refine W_new (n := 89) (k := 124) (xi := 89) (n1 := 90) (kc1 := 1) (ks1 := 100) h (by decide +kernel) (by decide +kernel) rfl rfl rfl rfl (fun c1 h1 => ?_)
  refine R_putfFr (j := 0) (len := 0) (pc' := 12) dX2_init_9 l_RX2_9 (isC_mk ⟨by decide, by decide⟩ (by decide +kernel)) fd2_0.1 fd2_0.2.1 fd2_0.2.2.2 rfl rfl fd2_0.2.2.1 (show (89 : Int) < ((90 : Nat) : Int) by decide) rfl ?_
  refine W_put (k := 124) (k1 := 125) h1 (by decide +kernel) (by decide +kernel) rfl (fun c2 h2 => ?_)
  refine R_aload_n (pc' := 13) dX2_init_12 rfl (by decide) rfl ?_
  refine R_bipush (pc' := 15) dX2_init_13 (by decide) rfl ?_
  refine R_newa_int (len := 10) (pc' := 17) dX2_init_15 w_ac_int (by decide) (Nat.le_of_ble_eq_true rfl) (Nat.le_of_ble_eq_true rfl) (okR_mk (n := 90) (by decide)) (okR_mk (n := 90) (by decide)) rfl ?_
  refine W_new (n := 90) (k := 125) (xi := 90) (n1 := 91) (kc1 := 2) (ks1 := 110) h2 (by decide +kernel) (by decide +kernel) rfl rfl rfl rfl (fun c3 h3 => ?_)
  refine R_putfFr (j := 2) (len := 0) (pc' := 20) dX2_init_17 l_RX2_15 (isC_mk ⟨by decide, by decide⟩ (by decide +kernel)) fd2_2.1 fd2_2.2.1 fd2_2.2.2.2 rfl rfl fd2_2.2.2.1 (show (90 : Int) < ((91 : Nat) : Int) by decide) rfl ?_
  refine W_put (k := 125) (k1 := 126) h3 (by decide +kernel) (by decide +kernel) rfl (fun c4 h4 => ?_)
  refine R_aload_n (pc' := 21) dX2_init_20 rfl (by decide) rfl ?_
  refine R_bipush (pc' := 23) dX2_init_21 (by decide) rfl ?_
  refine R_newa_int (len := 10) (pc' := 25) dX2_init_23 w_ac_int (by decide) (Nat.le_of_ble_eq_true rfl) (Nat.le_of_ble_eq_true rfl) (okR_mk (n := 91) (by decide)) (okR_mk (n := 91) (by decide)) rfl ?_
  refine W_new (n := 91) (k := 126) (xi := 91) (n1 := 92) (kc1 := 3) (ks1 := 120) h4 (by decide +kernel) (by decide +kernel) rfl rfl rfl rfl (fun c5 h5 => ?_)
  refine R_putfFr (j := 3) (len := 0) (pc' := 28) dX2_init_25 l_RX2_18 (isC_mk ⟨by decide, by decide⟩ (by decide +kernel)) fd2_3.1 fd2_3.2.1 fd2_3.2.2.2 rfl rfl fd2_3.2.2.1 (show (91 : Int) < ((92 : Nat) : Int) by decide) rfl ?_
  refine W_put (k := 126) (k1 := 127) h5 (by decide +kernel) (by decide +kernel) rfl (fun c6 h6 => ?_)
  refine R_aload_n (pc' := 29) dX2_init_28 rfl (by decide) rfl ?_
  refine R_iconst (pc' := 30) dX2_init_29 rfl ?_
  refine R_putfi (j := 5) (len := 0) (pc' := 33) dX2_init_30 l_RX2_21 (isC_mk ⟨by decide, by decide⟩ (by decide +kernel)) fd2_5.1 fd2_5.2.1 fd2_5.2.2.2.1 fd2_5.2.2.2.2 rfl ?_
  refine W_put (k := 127) (k1 := 128) h6 (by decide +kernel) (by decide +kernel) rfl (fun c7 h7 => ?_)
  refine R_aload_n (pc' := 34) dX2_init_33 rfl (by decide) rfl ?_
  refine R_bipush (pc' := 36) dX2_init_34 (by decide) rfl ?_
  refine R_putfi (j := 6) (len := 0) (pc' := 39) dX2_init_36 l_RX2_25 (isC_mk ⟨by decide, by decide⟩ (by decide +kernel)) fd2_6.1 fd2_6.2.1 fd2_6.2.2.2.1 fd2_6.2.2.2.2 rfl ?_
  refine W_put (k := 128) (k1 := 129) h7 (by decide +kernel) (by decide +kernel) rfl (fun c8 h8 => ?_)
  exact R_ret dX2_init_39 rfl (Nat.le_of_ble_eq_true rfl) (Nat.le_of_ble_eq_true rfl) (hQ c8 h8)
set_option maxRecDepth 100000 in
theorem i_X2_92 {K : SK} {d : Nat} {c : ct} {Q : hp → av → Prop} (h : OKc 93 130 c) (hQ : ∀ c', OKc 96 135 c' → Q (96, SH, c') (8, 0)) : CM K (d + 1) mX2_init [(2, 92)] (93, SH, c) Q := by
  refine CM_ofS (by decide) (Nat.le_of_ble_eq_true rfl) [(2, 92)] rfl ?_
  refine R_aload_n (pc' := 1) dX2_init_0 rfl (by decide) rfl ?_
  refine R_objInit (pc' := 4) dX2_init_1 (by decide) (by omega) (by decide) l_RX2_3 w_oi w_oc rfl ?_
  refine R_aload_n (pc' := 5) dX2_init_4 rfl (by decide) rfl ?_
  refine R_bipush (pc' := 7) dX2_init_5 (by decide) rfl ?_
  refine R_newa_int (len := 100) (pc' := 9) dX2_init_7 w_ac_int (by decide) (Nat.le_of_ble_eq_true rfl) (Nat.le_of_ble_eq_true rfl) (okR_mk (n := 93) (by decide)) (okR_mk (n := 93) (by decide)) rfl ?_
  refine W_new (n := 93) (k := 130) (xi := 93) (n1 := 94) (kc1 := 1) (ks1 := 100) h (by decide +kernel) (by decide +kernel) rfl rfl rfl rfl (fun c1 h1 => ?_)
  refine R_putfFr (j := 0) (len := 0) (pc' := 12) dX2_init_9 l_RX2_9 (isC_mk ⟨by decide, by decide⟩ (by decide +kernel)) fd2_0.1 fd2_0.2.1 fd2_0.2.2.2 rfl rfl fd2_0.2.2.1 (show (93 : Int) < ((94 : Nat) : Int) by decide) rfl ?_
  refine W_put (k := 130) (k1 := 131) h1 (by decide +kernel) (by decide +kernel) rfl (fun c2 h2 => ?_)
  refine R_aload_n (pc' := 13) dX2_init_12 rfl (by decide) rfl ?_
  refine R_bipush (pc' := 15) dX2_init_13 (by decide) rfl ?_
  refine R_newa_int (len := 10) (pc' := 17) dX2_init_15 w_ac_int (by decide) (Nat.le_of_ble_eq_true rfl) (Nat.le_of_ble_eq_true rfl) (okR_mk (n := 94) (by decide)) (okR_mk (n := 94) (by decide)) rfl ?_
  refine W_new (n := 94) (k := 131) (xi := 94) (n1 := 95) (kc1 := 2) (ks1 := 110) h2 (by decide +kernel) (by decide +kernel) rfl rfl rfl rfl (fun c3 h3 => ?_)
  refine R_putfFr (j := 2) (len := 0) (pc' := 20) dX2_init_17 l_RX2_15 (isC_mk ⟨by decide, by decide⟩ (by decide +kernel)) fd2_2.1 fd2_2.2.1 fd2_2.2.2.2 rfl rfl fd2_2.2.2.1 (show (94 : Int) < ((95 : Nat) : Int) by decide) rfl ?_
  refine W_put (k := 131) (k1 := 132) h3 (by decide +kernel) (by decide +kernel) rfl (fun c4 h4 => ?_)
  refine R_aload_n (pc' := 21) dX2_init_20 rfl (by decide) rfl ?_
  refine R_bipush (pc' := 23) dX2_init_21 (by decide) rfl ?_
  refine R_newa_int (len := 10) (pc' := 25) dX2_init_23 w_ac_int (by decide) (Nat.le_of_ble_eq_true rfl) (Nat.le_of_ble_eq_true rfl) (okR_mk (n := 95) (by decide)) (okR_mk (n := 95) (by decide)) rfl ?_
  refine W_new (n := 95) (k := 132) (xi := 95) (n1 := 96) (kc1 := 3) (ks1 := 120) h4 (by decide +kernel) (by decide +kernel) rfl rfl rfl rfl (fun c5 h5 => ?_)
  refine R_putfFr (j := 3) (len := 0) (pc' := 28) dX2_init_25 l_RX2_18 (isC_mk ⟨by decide, by decide⟩ (by decide +kernel)) fd2_3.1 fd2_3.2.1 fd2_3.2.2.2 rfl rfl fd2_3.2.2.1 (show (95 : Int) < ((96 : Nat) : Int) by decide) rfl ?_
  refine W_put (k := 132) (k1 := 133) h5 (by decide +kernel) (by decide +kernel) rfl (fun c6 h6 => ?_)
  refine R_aload_n (pc' := 29) dX2_init_28 rfl (by decide) rfl ?_
  refine R_iconst (pc' := 30) dX2_init_29 rfl ?_
  refine R_putfi (j := 5) (len := 0) (pc' := 33) dX2_init_30 l_RX2_21 (isC_mk ⟨by decide, by decide⟩ (by decide +kernel)) fd2_5.1 fd2_5.2.1 fd2_5.2.2.2.1 fd2_5.2.2.2.2 rfl ?_
  refine W_put (k := 133) (k1 := 134) h6 (by decide +kernel) (by decide +kernel) rfl (fun c7 h7 => ?_)
  refine R_aload_n (pc' := 34) dX2_init_33 rfl (by decide) rfl ?_
  refine R_bipush (pc' := 36) dX2_init_34 (by decide) rfl ?_
  refine R_putfi (j := 6) (len := 0) (pc' := 39) dX2_init_36 l_RX2_25 (isC_mk ⟨by decide, by decide⟩ (by decide +kernel)) fd2_6.1 fd2_6.2.1 fd2_6.2.2.2.1 fd2_6.2.2.2.2 rfl ?_
  refine W_put (k := 134) (k1 := 135) h7 (by decide +kernel) (by decide +kernel) rfl (fun c8 h8 => ?_)
  exact R_ret dX2_init_39 rfl (Nat.le_of_ble_eq_true rfl) (Nat.le_of_ble_eq_true rfl) (hQ c8 h8)
set_option maxRecDepth 100000 in
theorem i_X7_96 {K : SK} {d : Nat} {c : ct} {Q : hp → av → Prop} (h : OKc 97 136 c) (hQ : ∀ c', OKc 98 138 c' → Q (98, SH, c') (8, 0)) : CM K (d + 1) mX7_init [(2, 96)] (97, SH, c) Q := by
  refine CM_ofS (by decide) (Nat.le_of_ble_eq_true rfl) [(2, 96)] rfl ?_
  refine R_aload_n (pc' := 1) dX7_init_0 rfl (by decide) rfl ?_
  refine R_objInit (pc' := 4) dX7_init_1 (by decide) (by omega) (by decide) l_RX7_3 w_oi w_oc rfl ?_
  refine R_aload_n (pc' := 5) dX7_init_4 rfl (by decide) rfl ?_
  refine R_bipush (pc' := 7) dX7_init_5 (by decide) rfl ?_
  refine R_newa_long (len := 60) (pc' := 9) dX7_init_7 w_ac_long (by decide) (Nat.le_of_ble_eq_true rfl) (Nat.le_of_ble_eq_true rfl) (okR_mk (n := 97) (by decide)) (okR_mk (n := 97) (by decide)) rfl ?_
  refine W_new (n := 97) (k := 136) (xi := 97) (n1 := 98) (kc1 := 1) (ks1 := 60) h (by decide +kernel) (by decide +kernel) rfl rfl rfl rfl (fun c1 h1 => ?_)
  refine R_putfFr (j := 0) (len := 0) (pc' := 12) dX7_init_9 l_RX7_9 (isC_mk ⟨by decide, by decide⟩ (by decide +kernel)) fd7_0.1 fd7_0.2.1 fd7_0.2.2.2 rfl rfl fd7_0.2.2.1 (show (97 : Int) < ((98 : Nat) : Int) by decide) rfl ?_
  refine W_put (k := 136) (k1 := 137) h1 (by decide +kernel) (by decide +kernel) rfl (fun c2 h2 => ?_)
  refine R_aload_n (pc' := 13) dX7_init_12 rfl (by decide) rfl ?_
  refine R_iconst (pc' := 14) dX7_init_13 rfl ?_
  refine R_putfi (j := 1) (len := 0) (pc' := 17) dX7_init_14 l_RX7_15 (isC_mk ⟨by decide, by decide⟩ (by decide +kernel)) fd7_1.1 fd7_1.2.1 fd7_1.2.2.2.1 fd7_1.2.2.2.2 rfl ?_
  refine W_put (k := 137) (k1 := 138) h2 (by decide +kernel) (by decide +kernel) rfl (fun c3 h3 => ?_)
  exact R_ret dX7_init_17 rfl (Nat.le_of_ble_eq_true rfl) (Nat.le_of_ble_eq_true rfl) (hQ c3 h3)
set_option maxRecDepth 100000 in
theorem i_X7_98 {K : SK} {d : Nat} {c : ct} {Q : hp → av → Prop} (h : OKc 99 139 c) (hQ : ∀ c', OKc 100 141 c' → Q (100, SH, c') (8, 0)) : CM K (d + 1) mX7_init [(2, 98)] (99, SH, c) Q := by
  refine CM_ofS (by decide) (Nat.le_of_ble_eq_true rfl) [(2, 98)] rfl ?_
  refine R_aload_n (pc' := 1) dX7_init_0 rfl (by decide) rfl ?_
  refine R_objInit (pc' := 4) dX7_init_1 (by decide) (by omega) (by decide) l_RX7_3 w_oi w_oc rfl ?_
  refine R_aload_n (pc' := 5) dX7_init_4 rfl (by decide) rfl ?_
  refine R_bipush (pc' := 7) dX7_init_5 (by decide) rfl ?_
  refine R_newa_long (len := 60) (pc' := 9) dX7_init_7 w_ac_long (by decide) (Nat.le_of_ble_eq_true rfl) (Nat.le_of_ble_eq_true rfl) (okR_mk (n := 99) (by decide)) (okR_mk (n := 99) (by decide)) rfl ?_
  refine W_new (n := 99) (k := 139) (xi := 99) (n1 := 100) (kc1 := 1) (ks1 := 60) h (by decide +kernel) (by decide +kernel) rfl rfl rfl rfl (fun c1 h1 => ?_)
  refine R_putfFr (j := 0) (len := 0) (pc' := 12) dX7_init_9 l_RX7_9 (isC_mk ⟨by decide, by decide⟩ (by decide +kernel)) fd7_0.1 fd7_0.2.1 fd7_0.2.2.2 rfl rfl fd7_0.2.2.1 (show (99 : Int) < ((100 : Nat) : Int) by decide) rfl ?_
  refine W_put (k := 139) (k1 := 140) h1 (by decide +kernel) (by decide +kernel) rfl (fun c2 h2 => ?_)
  refine R_aload_n (pc' := 13) dX7_init_12 rfl (by decide) rfl ?_
  refine R_iconst (pc' := 14) dX7_init_13 rfl ?_
  refine R_putfi (j := 1) (len := 0) (pc' := 17) dX7_init_14 l_RX7_15 (isC_mk ⟨by decide, by decide⟩ (by decide +kernel)) fd7_1.1 fd7_1.2.1 fd7_1.2.2.2.1 fd7_1.2.2.2.2 rfl ?_
  refine W_put (k := 140) (k1 := 141) h2 (by decide +kernel) (by decide +kernel) rfl (fun c3 h3 => ?_)
  exact R_ret dX7_init_17 rfl (Nat.le_of_ble_eq_true rfl) (Nat.le_of_ble_eq_true rfl) (hQ c3 h3)
set_option maxRecDepth 100000 in
theorem i_X7_100 {K : SK} {d : Nat} {c : ct} {Q : hp → av → Prop} (h : OKc 101 142 c) (hQ : ∀ c', OKc 102 144 c' → Q (102, SH, c') (8, 0)) : CM K (d + 1) mX7_init [(2, 100)] (101, SH, c) Q := by
  refine CM_ofS (by decide) (Nat.le_of_ble_eq_true rfl) [(2, 100)] rfl ?_
  refine R_aload_n (pc' := 1) dX7_init_0 rfl (by decide) rfl ?_
  refine R_objInit (pc' := 4) dX7_init_1 (by decide) (by omega) (by decide) l_RX7_3 w_oi w_oc rfl ?_
  refine R_aload_n (pc' := 5) dX7_init_4 rfl (by decide) rfl ?_
  refine R_bipush (pc' := 7) dX7_init_5 (by decide) rfl ?_
  refine R_newa_long (len := 60) (pc' := 9) dX7_init_7 w_ac_long (by decide) (Nat.le_of_ble_eq_true rfl) (Nat.le_of_ble_eq_true rfl) (okR_mk (n := 101) (by decide)) (okR_mk (n := 101) (by decide)) rfl ?_
  refine W_new (n := 101) (k := 142) (xi := 101) (n1 := 102) (kc1 := 1) (ks1 := 60) h (by decide +kernel) (by decide +kernel) rfl rfl rfl rfl (fun c1 h1 => ?_)
  refine R_putfFr (j := 0) (len := 0) (pc' := 12) dX7_init_9 l_RX7_9 (isC_mk ⟨by decide, by decide⟩ (by decide +kernel)) fd7_0.1 fd7_0.2.1 fd7_0.2.2.2 rfl rfl fd7_0.2.2.1 (show (101 : Int) < ((102 : Nat) : Int) by decide) rfl ?_
  refine W_put (k := 142) (k1 := 143) h1 (by decide +kernel) (by decide +kernel) rfl (fun c2 h2 => ?_)
  refine R_aload_n (pc' := 13) dX7_init_12 rfl (by decide) rfl ?_
  refine R_iconst (pc' := 14) dX7_init_13 rfl ?_
  refine R_putfi (j := 1) (len := 0) (pc' := 17) dX7_init_14 l_RX7_15 (isC_mk ⟨by decide, by decide⟩ (by decide +kernel)) fd7_1.1 fd7_1.2.1 fd7_1.2.2.2.1 fd7_1.2.2.2.2 rfl ?_
  refine W_put (k := 143) (k1 := 144) h2 (by decide +kernel) (by decide +kernel) rfl (fun c3 h3 => ?_)
  exact R_ret dX7_init_17 rfl (Nat.le_of_ble_eq_true rfl) (Nat.le_of_ble_eq_true rfl) (hQ c3 h3)
set_option maxRecDepth 100000 in
theorem i_X7_102 {K : SK} {d : Nat} {c : ct} {Q : hp → av → Prop} (h : OKc 103 145 c) (hQ : ∀ c', OKc 104 147 c' → Q (104, SH, c') (8, 0)) : CM K (d + 1) mX7_init [(2, 102)] (103, SH, c) Q := by
  refine CM_ofS (by decide) (Nat.le_of_ble_eq_true rfl) [(2, 102)] rfl ?_
  refine R_aload_n (pc' := 1) dX7_init_0 rfl (by decide) rfl ?_
  refine R_objInit (pc' := 4) dX7_init_1 (by decide) (by omega) (by decide) l_RX7_3 w_oi w_oc rfl ?_
  refine R_aload_n (pc' := 5) dX7_init_4 rfl (by decide) rfl ?_
  refine R_bipush (pc' := 7) dX7_init_5 (by decide) rfl ?_
  refine R_newa_long (len := 60) (pc' := 9) dX7_init_7 w_ac_long (by decide) (Nat.le_of_ble_eq_true rfl) (Nat.le_of_ble_eq_true rfl) (okR_mk (n := 103) (by decide)) (okR_mk (n := 103) (by decide)) rfl ?_
  refine W_new (n := 103) (k := 145) (xi := 103) (n1 := 104) (kc1 := 1) (ks1 := 60) h (by decide +kernel) (by decide +kernel) rfl rfl rfl rfl (fun c1 h1 => ?_)
  refine R_putfFr (j := 0) (len := 0) (pc' := 12) dX7_init_9 l_RX7_9 (isC_mk ⟨by decide, by decide⟩ (by decide +kernel)) fd7_0.1 fd7_0.2.1 fd7_0.2.2.2 rfl rfl fd7_0.2.2.1 (show (103 : Int) < ((104 : Nat) : Int) by decide) rfl ?_
  refine W_put (k := 145) (k1 := 146) h1 (by decide +kernel) (by decide +kernel) rfl (fun c2 h2 => ?_)
  refine R_aload_n (pc' := 13) dX7_init_12 rfl (by decide) rfl ?_
  refine R_iconst (pc' := 14) dX7_init_13 rfl ?_
  refine R_putfi (j := 1) (len := 0) (pc' := 17) dX7_init_14 l_RX7_15 (isC_mk ⟨by decide, by decide⟩ (by decide +kernel)) fd7_1.1 fd7_1.2.1 fd7_1.2.2.2.1 fd7_1.2.2.2.2 rfl ?_
  refine W_put (k := 146) (k1 := 147) h2 (by decide +kernel) (by decide +kernel) rfl (fun c3 h3 => ?_)
  exact R_ret dX7_init_17 rfl (Nat.le_of_ble_eq_true rfl) (Nat.le_of_ble_eq_true rfl) (hQ c3 h3)
set_option maxRecDepth 100000 in
theorem i_X7_104 {K : SK} {d : Nat} {c : ct} {Q : hp → av → Prop} (h : OKc 105 148 c) (hQ : ∀ c', OKc 106 150 c' → Q (106, SH, c') (8, 0)) : CM K (d + 1) mX7_init [(2, 104)] (105, SH, c) Q := by
  refine CM_ofS (by decide) (Nat.le_of_ble_eq_true rfl) [(2, 104)] rfl ?_
  refine R_aload_n (pc' := 1) dX7_init_0 rfl (by decide) rfl ?_
  refine R_objInit (pc' := 4) dX7_init_1 (by decide) (by omega) (by decide) l_RX7_3 w_oi w_oc rfl ?_
  refine R_aload_n (pc' := 5) dX7_init_4 rfl (by decide) rfl ?_
  refine R_bipush (pc' := 7) dX7_init_5 (by decide) rfl ?_
  refine R_newa_long (len := 60) (pc' := 9) dX7_init_7 w_ac_long (by decide) (Nat.le_of_ble_eq_true rfl) (Nat.le_of_ble_eq_true rfl) (okR_mk (n := 105) (by decide)) (okR_mk (n := 105) (by decide)) rfl ?_
  refine W_new (n := 105) (k := 148) (xi := 105) (n1 := 106) (kc1 := 1) (ks1 := 60) h (by decide +kernel) (by decide +kernel) rfl rfl rfl rfl (fun c1 h1 => ?_)
  refine R_putfFr (j := 0) (len := 0) (pc' := 12) dX7_init_9 l_RX7_9 (isC_mk ⟨by decide, by decide⟩ (by decide +kernel)) fd7_0.1 fd7_0.2.1 fd7_0.2.2.2 rfl rfl fd7_0.2.2.1 (show (105 : Int) < ((106 : Nat) : Int) by decide) rfl ?_
  refine W_put (k := 148) (k1 := 149) h1 (by decide +kernel) (by decide +kernel) rfl (fun c2 h2 => ?_)
  refine R_aload_n (pc' := 13) dX7_init_12 rfl (by decide) rfl ?_
  refine R_iconst (pc' := 14) dX7_init_13 rfl ?_
  refine R_putfi (j := 1) (len := 0) (pc' := 17) dX7_init_14 l_RX7_15 (isC_mk ⟨by decide, by decide⟩ (by decide +kernel)) fd7_1.1 fd7_1.2.1 fd7_1.2.2.2.1 fd7_1.2.2.2.2 rfl ?_
  refine W_put (k := 149) (k1 := 150) h2 (by decide +kernel) (by decide +kernel) rfl (fun c3 h3 => ?_)
  exact R_ret dX7_init_17 rfl (Nat.le_of_ble_eq_true rfl) (Nat.le_of_ble_eq_true rfl) (hQ c3 h3)
set_option maxRecDepth 100000 in
theorem i_X7_106 {K : SK} {d : Nat} {c : ct} {Q : hp → av → Prop} (h : OKc 107 151 c) (hQ : ∀ c', OKc 108 153 c' → Q (108, SH, c') (8, 0)) : CM K (d + 1) mX7_init [(2, 106)] (107, SH, c) Q := by
  refine CM_ofS (by decide) (Nat.le_of_ble_eq_true rfl) [(2, 106)] rfl ?_
  refine R_aload_n (pc' := 1) dX7_init_0 rfl (by decide) rfl ?_
  refine R_objInit (pc' := 4) dX7_init_1 (by decide) (by omega) (by decide) l_RX7_3 w_oi w_oc rfl ?_
  refine R_aload_n (pc' := 5) dX7_init_4 rfl (by decide) rfl ?_
  refine R_bipush (pc' := 7) dX7_init_5 (by decide) rfl ?_
  refine R_newa_long (len := 60) (pc' := 9) dX7_init_7 w_ac_long (by decide) (Nat.le_of_ble_eq_true rfl) (Nat.le_of_ble_eq_true rfl) (okR_mk (n := 107) (by decide)) (okR_mk (n := 107) (by decide)) rfl ?_
  refine W_new (n := 107) (k := 151) (xi := 107) (n1 := 108) (kc1 := 1) (ks1 := 60) h (by decide +kernel) (by decide +kernel) rfl rfl rfl rfl (fun c1 h1 => ?_)
  refine R_putfFr (j := 0) (len := 0) (pc' := 12) dX7_init_9 l_RX7_9 (isC_mk ⟨by decide, by decide⟩ (by decide +kernel)) fd7_0.1 fd7_0.2.1 fd7_0.2.2.2 rfl rfl fd7_0.2.2.1 (show (107 : Int) < ((108 : Nat) : Int) by decide) rfl ?_
  refine W_put (k := 151) (k1 := 152) h1 (by decide +kernel) (by decide +kernel) rfl (fun c2 h2 => ?_)
  refine R_aload_n (pc' := 13) dX7_init_12 rfl (by decide) rfl ?_
  refine R_iconst (pc' := 14) dX7_init_13 rfl ?_
  refine R_putfi (j := 1) (len := 0) (pc' := 17) dX7_init_14 l_RX7_15 (isC_mk ⟨by decide, by decide⟩ (by decide +kernel)) fd7_1.1 fd7_1.2.1 fd7_1.2.2.2.1 fd7_1.2.2.2.2 rfl ?_
  refine W_put (k := 152) (k1 := 153) h2 (by decide +kernel) (by decide +kernel) rfl (fun c3 h3 => ?_)
  exact R_ret dX7_init_17 rfl (Nat.le_of_ble_eq_true rfl) (Nat.le_of_ble_eq_true rfl) (hQ c3 h3)
set_option maxRecDepth 100000 in
theorem i_X8_0 {K : SK} {d : Nat} {c : ct} {Q : hp → av → Prop} (h : OKc 1 0 c) (hQ : ∀ c', OKc 108 154 c' → Q (108, SH, c') (8, 0)) : CM K (d + 3) mX8_init [(2, 0)] (1, SH, c) Q := by
  refine CM_ofS (by decide) (Nat.le_of_ble_eq_true rfl) [(2, 0), (9, 0), (9, 0)] rfl ?_
  refine R_aload_n (pc' := 1) dX8_init_0 rfl (by decide) rfl ?_
  refine R_objInit (pc' := 4) dX8_init_1 (by decide) (by omega) (by decide) l_RX8_3 w_oi w_oc rfl ?_
  refine R_aload_n (pc' := 5) dX8_init_4 rfl (by decide) rfl ?_
  refine R_bipush (pc' := 7) dX8_init_5 (by decide) rfl ?_
  refine R_newa_byte (len := 100) (pc' := 9) dX8_init_7 w_ac_byte (by decide) (Nat.le_of_ble_eq_true rfl) (Nat.le_of_ble_eq_true rfl) (okR_mk (n := 1) (by decide)) (okR_mk (n := 1) (by decide)) rfl ?_
  refine W_new (n := 1) (k := 0) (xi := 1) (n1 := 2) (kc1 := 1) (ks1 := 100) h (by decide +kernel) (by decide +kernel) rfl rfl rfl rfl (fun c1 h1 => ?_)
  refine R_putfFr (j := 4) (len := 0) (pc' := 12) dX8_init_9 l_RX8_11 (isC_mk ⟨by decide, by decide⟩ (by decide +kernel)) fd8_4.1 fd8_4.2.1 fd8_4.2.2.2 rfl rfl fd8_4.2.2.1 (show (1 : Int) < ((2 : Nat) : Int) by decide) rfl ?_
  refine W_put (k := 0) (k1 := 1) h1 (by decide +kernel) (by decide +kernel) rfl (fun c2 h2 => ?_)
  refine R_aload_n (pc' := 13) dX8_init_12 rfl (by decide) rfl ?_
  refine R_bipush (pc' := 15) dX8_init_13 (by decide) rfl ?_
  refine R_newq_House (len := 6) (pc' := 18) dX8_init_15 l_RX8_15 w_ao_2 (by decide) (Nat.le_of_ble_eq_true rfl) (Nat.le_of_ble_eq_true rfl) (okR_mk (n := 2) (by decide)) (okR_mk (n := 2) (by decide)) rfl ?_
  refine W_new (n := 2) (k := 1) (xi := 2) (n1 := 3) (kc1 := 2) (ks1 := 106) h2 (by decide +kernel) (by decide +kernel) rfl rfl rfl rfl (fun c3 h3 => ?_)
  refine R_putfFr (j := 6) (len := 0) (pc' := 21) dX8_init_18 l_RX8_17 (isC_mk ⟨by decide, by decide⟩ (by decide +kernel)) fd8_6.1 fd8_6.2.1 fd8_6.2.2.2 rfl rfl fd8_6.2.2.1 (show (2 : Int) < ((3 : Nat) : Int) by decide) rfl ?_
  refine W_put (k := 1) (k1 := 2) h3 (by decide +kernel) (by decide +kernel) rfl (fun c4 h4 => ?_)
  refine R_aload_n (pc' := 22) dX8_init_21 rfl (by decide) rfl ?_
  refine R_new (pc' := 25) dX8_init_22 (by decide) l_RX8_21 w_ins_4 w_ini_LeavesRoom_Reader (Nat.le_of_ble_eq_true rfl) (Nat.le_of_ble_eq_true rfl) (okR_mk (n := 3) (by decide)) (okR_mk (n := 3) (by decide)) rfl ?_
  refine W_new (n := 3) (k := 2) (xi := 3) (n1 := 4) (kc1 := 3) (ks1 := 111) h4 (by decide +kernel) (by decide +kernel) rfl rfl rfl rfl (fun c5 h5 => ?_)
  refine R_dup (pc' := 26) dX8_init_25 (by simp) rfl ?_
  refine R_callIN (vs := []) (st := [(2, 3), (2, 0)]) (x := 3) (pc' := 29) dX8_init_26 l_RX8_23 (by decide) rfl (by decide) (Nat.le_of_ble_eq_true rfl) (Nat.le_of_ble_eq_true rfl) (Or.inr ⟨(okR_mk (n := 4) (by decide)), (okR_mk (n := 4) (by decide))⟩) rfl ?_
  refine i_X4_3 h5 (fun c6 h6 => ?_)
  show WP K _ mX8_init 3 111 29 [(2, 0), (9, 0), (9, 0)] [(2, 3), (2, 0)] (4, SH, c6) Q
  refine R_putfFr (j := 8) (len := 0) (pc' := 32) dX8_init_29 l_RX8_24 (isC_mk ⟨by decide, by decide⟩ (by decide +kernel)) fd8_8.1 fd8_8.2.1 fd8_8.2.2.2 rfl rfl fd8_8.2.2.1 (show (3 : Int) < ((4 : Nat) : Int) by decide) rfl ?_
  refine W_put (k := 2) (k1 := 3) h6 (by decide +kernel) (by decide +kernel) rfl (fun c7 h7 => ?_)
  refine R_aload_n (pc' := 33) dX8_init_32 rfl (by decide) rfl ?_
  refine R_new (pc' := 36) dX8_init_33 (by decide) l_RX8_28 w_ins_0 w_ini_LeavesRoom_Acts (Nat.le_of_ble_eq_true rfl) (Nat.le_of_ble_eq_true rfl) (okR_mk (n := 4) (by decide)) (okR_mk (n := 4) (by decide)) rfl ?_
  refine W_new (n := 4) (k := 3) (xi := 4) (n1 := 5) (kc1 := 4) (ks1 := 116) h7 (by decide +kernel) (by decide +kernel) rfl rfl rfl rfl (fun c8 h8 => ?_)
  refine R_dup (pc' := 37) dX8_init_36 (by simp) rfl ?_
  refine R_callIN (vs := []) (st := [(2, 4), (2, 0)]) (x := 4) (pc' := 40) dX8_init_37 l_RX8_30 (by decide) rfl (by decide) (Nat.le_of_ble_eq_true rfl) (Nat.le_of_ble_eq_true rfl) (Or.inr ⟨(okR_mk (n := 5) (by decide)), (okR_mk (n := 5) (by decide))⟩) rfl ?_
  refine i_X0_4 h8 (fun c9 h9 => ?_)
  show WP K _ mX8_init 5 136 40 [(2, 0), (9, 0), (9, 0)] [(2, 4), (2, 0)] (6, SH, c9) Q
  refine R_putfFr (j := 10) (len := 0) (pc' := 43) dX8_init_40 l_RX8_31 (isC_mk ⟨by decide, by decide⟩ (by decide +kernel)) fd8_10.1 fd8_10.2.1 fd8_10.2.2.2 rfl rfl fd8_10.2.2.1 (show (4 : Int) < ((6 : Nat) : Int) by decide) rfl ?_
  refine W_put (k := 4) (k1 := 5) h9 (by decide +kernel) (by decide +kernel) rfl (fun c10 h10 => ?_)
  refine R_aload_n (pc' := 44) dX8_init_43 rfl (by decide) rfl ?_
  refine R_bipush (pc' := 46) dX8_init_44 (by decide) rfl ?_
  refine R_newq_Tape (len := 6) (pc' := 49) dX8_init_46 l_RX8_35 w_ao_7 (by decide) (Nat.le_of_ble_eq_true rfl) (Nat.le_of_ble_eq_true rfl) (okR_mk (n := 6) (by decide)) (okR_mk (n := 6) (by decide)) rfl ?_
  refine W_new (n := 6) (k := 5) (xi := 6) (n1 := 7) (kc1 := 6) (ks1 := 142) h10 (by decide +kernel) (by decide +kernel) rfl rfl rfl rfl (fun c11 h11 => ?_)
  refine R_putfFr (j := 11) (len := 0) (pc' := 52) dX8_init_49 l_RX8_37 (isC_mk ⟨by decide, by decide⟩ (by decide +kernel)) fd8_11.1 fd8_11.2.1 fd8_11.2.2.2 rfl rfl fd8_11.2.2.1 (show (6 : Int) < ((7 : Nat) : Int) by decide) rfl ?_
  refine W_put (k := 5) (k1 := 6) h11 (by decide +kernel) (by decide +kernel) rfl (fun c12 h12 => ?_)
  refine R_new (pc' := 55) dX8_init_52 (by decide) l_RX8_15 w_ins_2 w_ini_LeavesRoom_House (Nat.le_of_ble_eq_true rfl) (Nat.le_of_ble_eq_true rfl) (okR_mk (n := 7) (by decide)) (okR_mk (n := 7) (by decide)) rfl ?_
  refine W_new (n := 7) (k := 6) (xi := 7) (n1 := 8) (kc1 := 7) (ks1 := 150) h12 (by decide +kernel) (by decide +kernel) rfl rfl rfl rfl (fun c13 h13 => ?_)
  refine R_dup (pc' := 56) dX8_init_55 (by simp) rfl ?_
  refine R_callIN (vs := []) (st := [(2, 7)]) (x := 7) (pc' := 59) dX8_init_56 l_RX8_41 (by decide) rfl (by decide) (Nat.le_of_ble_eq_true rfl) (Nat.le_of_ble_eq_true rfl) (Or.inr ⟨(okR_mk (n := 8) (by decide)), (okR_mk (n := 8) (by decide))⟩) rfl ?_
  refine i_X2_7 h13 (fun c14 h14 => ?_)
  show WP K _ mX8_init 10 270 59 [(2, 0), (9, 0), (9, 0)] [(2, 7)] (11, SH, c14) Q
  refine R_astore_n (L' := [(2, 0), (2, 7), (9, 0)]) (pc' := 60) dX8_init_59 (by decide) (by decide) rfl rfl rfl ?_
  refine R_aload_n (pc' := 61) dX8_init_60 rfl (by decide) rfl ?_
  refine R_new (pc' := 64) dX8_init_61 (by decide) l_RX8_42 w_ins_1 w_ini_LeavesRoom_Evening (Nat.le_of_ble_eq_true rfl) (Nat.le_of_ble_eq_true rfl) (okR_mk (n := 11) (by decide)) (okR_mk (n := 11) (by decide)) rfl ?_
  refine W_new (n := 11) (k := 11) (xi := 11) (n1 := 12) (kc1 := 11) (ks1 := 274) h14 (by decide +kernel) (by decide +kernel) rfl rfl rfl rfl (fun c15 h15 => ?_)
  refine R_dup (pc' := 65) dX8_init_64 (by simp) rfl ?_
  refine R_aload_n (pc' := 66) dX8_init_65 rfl (by decide) rfl ?_
  refine R_callI (vs := [(2, 7)]) (st := [(2, 11), (2, 0)]) (x := 11) (pc' := 69) dX8_init_66 l_RX8_44 (by decide) rfl (by decide) (Nat.le_of_ble_eq_true rfl) (Nat.le_of_ble_eq_true rfl) (Or.inr ⟨(okR_mk (n := 12) (by decide)), (okR_mk (n := 12) (by decide))⟩) rfl ?_
  refine i_X1_11 h15 (fun c16 h16 => ?_)
  show WP K _ mX8_init 34 507 69 [(2, 0), (2, 7), (9, 0)] [(2, 11), (2, 0)] (35, SH, c16) Q
  refine R_putfFr (j := 0) (len := 0) (pc' := 72) dX8_init_69 l_RX8_47 (isC_mk ⟨by decide, by decide⟩ (by decide +kernel)) fd8_0.1 fd8_0.2.1 fd8_0.2.2.2 rfl rfl fd8_0.2.2.1 (show (11 : Int) < ((35 : Nat) : Int) by decide) rfl ?_
  refine W_put (k := 44) (k1 := 45) h16 (by decide +kernel) (by decide +kernel) rfl (fun c17 h17 => ?_)
  refine R_aload_n (pc' := 73) dX8_init_72 rfl (by decide) rfl ?_
  refine R_new (pc' := 76) dX8_init_73 (by decide) l_RX8_42 w_ins_1 w_ini_LeavesRoom_Evening (Nat.le_of_ble_eq_true rfl) (Nat.le_of_ble_eq_true rfl) (okR_mk (n := 35) (by decide)) (okR_mk (n := 35) (by decide)) rfl ?_
  refine W_new (n := 35) (k := 45) (xi := 35) (n1 := 36) (kc1 := 35) (ks1 := 511) h17 (by decide +kernel) (by decide +kernel) rfl rfl rfl rfl (fun c18 h18 => ?_)
  refine R_dup (pc' := 77) dX8_init_76 (by simp) rfl ?_
  refine R_aload_n (pc' := 78) dX8_init_77 rfl (by decide) rfl ?_
  refine R_callI (vs := [(2, 7)]) (st := [(2, 35), (2, 0)]) (x := 35) (pc' := 81) dX8_init_78 l_RX8_44 (by decide) rfl (by decide) (Nat.le_of_ble_eq_true rfl) (Nat.le_of_ble_eq_true rfl) (Or.inr ⟨(okR_mk (n := 36) (by decide)), (okR_mk (n := 36) (by decide))⟩) rfl ?_
  refine i_X1_35 h18 (fun c19 h19 => ?_)
  show WP K _ mX8_init 58 744 81 [(2, 0), (2, 7), (9, 0)] [(2, 35), (2, 0)] (59, SH, c19) Q
  refine R_putfFr (j := 1) (len := 0) (pc' := 84) dX8_init_81 l_RX8_51 (isC_mk ⟨by decide, by decide⟩ (by decide +kernel)) fd8_1.1 fd8_1.2.1 fd8_1.2.2.2 rfl rfl fd8_1.2.2.1 (show (35 : Int) < ((59 : Nat) : Int) by decide) rfl ?_
  refine W_put (k := 78) (k1 := 79) h19 (by decide +kernel) (by decide +kernel) rfl (fun c20 h20 => ?_)
  refine R_aload_n (pc' := 85) dX8_init_84 rfl (by decide) rfl ?_
  refine R_new (pc' := 88) dX8_init_85 (by decide) l_RX8_54 w_ins_6 w_ini_LeavesRoom_Table (Nat.le_of_ble_eq_true rfl) (Nat.le_of_ble_eq_true rfl) (okR_mk (n := 59) (by decide)) (okR_mk (n := 59) (by decide)) rfl ?_
  refine W_new (n := 59) (k := 79) (xi := 59) (n1 := 60) (kc1 := 59) (ks1 := 758) h20 (by decide +kernel) (by decide +kernel) rfl rfl rfl rfl (fun c21 h21 => ?_)
  refine R_dup (pc' := 89) dX8_init_88 (by simp) rfl ?_
  refine R_aload_n (pc' := 90) dX8_init_89 rfl (by decide) rfl ?_
  refine R_callI (vs := [(2, 7)]) (st := [(2, 59), (2, 0)]) (x := 59) (pc' := 93) dX8_init_90 l_RX8_56 (by decide) rfl (by decide) (Nat.le_of_ble_eq_true rfl) (Nat.le_of_ble_eq_true rfl) (Or.inr ⟨(okR_mk (n := 60) (by decide)), (okR_mk (n := 60) (by decide))⟩) rfl ?_
  refine i_X6_59 h21 (fun c22 h22 => ?_)
  show WP K _ mX8_init 69 872 93 [(2, 0), (2, 7), (9, 0)] [(2, 59), (2, 0)] (70, SH, c22) Q
  refine R_putfFr (j := 3) (len := 0) (pc' := 96) dX8_init_93 l_RX8_57 (isC_mk ⟨by decide, by decide⟩ (by decide +kernel)) fd8_3.1 fd8_3.2.1 fd8_3.2.2.2 rfl rfl fd8_3.2.2.1 (show (59 : Int) < ((70 : Nat) : Int) by decide) rfl ?_
  refine W_put (k := 96) (k1 := 97) h22 (by decide +kernel) (by decide +kernel) rfl (fun c23 h23 => ?_)
  refine R_aload_n (pc' := 97) dX8_init_96 rfl (by decide) rfl ?_
  refine R_new (pc' := 100) dX8_init_97 (by decide) l_RX8_61 w_ins_3 w_ini_LeavesRoom_Placings (Nat.le_of_ble_eq_true rfl) (Nat.le_of_ble_eq_true rfl) (okR_mk (n := 70) (by decide)) (okR_mk (n := 70) (by decide)) rfl ?_
  refine W_new (n := 70) (k := 97) (xi := 70) (n1 := 71) (kc1 := 70) (ks1 := 878) h23 (by decide +kernel) (by decide +kernel) rfl rfl rfl rfl (fun c24 h24 => ?_)
  refine R_dup (pc' := 101) dX8_init_100 (by simp) rfl ?_
  refine R_aload_n (pc' := 102) dX8_init_101 rfl (by decide) rfl ?_
  refine R_getfr (j := 3) (len := 0) (pc' := 105) dX8_init_102 l_RX8_57 (isC_mk ⟨by decide, by decide⟩ (by decide +kernel)) fd8_3.1 fd8_3.2.1 fd8_3.2.2.1 rfl ?_
  refine W_get (k := 97) (v := 59) h24 ⟨by decide, by decide, by decide⟩ (by decide +kernel) (by decide +kernel) ?_
  refine R_callI (vs := [(2, 59)]) (st := [(2, 70), (2, 0)]) (x := 70) (pc' := 108) dX8_init_105 l_RX8_63 (by decide) rfl (by decide) (Nat.le_of_ble_eq_true rfl) (Nat.le_of_ble_eq_true rfl) (Or.inr ⟨(okR_mk (n := 71) (by decide)), (okR_mk (n := 71) (by decide))⟩) rfl ?_
  refine i_X3_70 h24 (fun c25 h25 => ?_)
  show WP K _ mX8_init 71 884 108 [(2, 0), (2, 7), (9, 0)] [(2, 70), (2, 0)] (72, SH, c25) Q
  refine R_putfFr (j := 9) (len := 0) (pc' := 111) dX8_init_108 l_RX8_66 (isC_mk ⟨by decide, by decide⟩ (by decide +kernel)) fd8_9.1 fd8_9.2.1 fd8_9.2.2.2 rfl rfl fd8_9.2.2.1 (show (70 : Int) < ((72 : Nat) : Int) by decide) rfl ?_
  refine W_put (k := 99) (k1 := 100) h25 (by decide +kernel) (by decide +kernel) rfl (fun c26 h26 => ?_)
  refine R_iconst (pc' := 112) dX8_init_111 rfl ?_
  refine R_istore_n (L' := [(2, 0), (2, 7), (0, 0)]) (pc' := 113) dX8_init_112 (by decide) rfl rfl rfl ?_
  refine R_iload_n (pc' := 114) dX8_init_113 rfl rfl ?_
  refine R_bipush (pc' := 116) dX8_init_114 (by decide) rfl ?_
  refine R_icmp_ge (tgt := 138) (pc' := 119) dX8_init_116 (by decide) (ir_l (by decide) (by decide)) (ir_l (by decide) (by decide)) rfl (fun q => absurd q (by decide)) (fun _ => ?_)
  refine R_aload_n (pc' := 120) dX8_init_119 rfl (by decide) rfl ?_
  refine R_getfr (j := 6) (len := 0) (pc' := 123) dX8_init_120 l_RX8_17 (isC_mk ⟨by decide, by decide⟩ (by decide +kernel)) fd8_6.1 fd8_6.2.1 fd8_6.2.2.1 rfl ?_
  refine W_get (k := 100) (v := 2) h26 ⟨by decide, by decide, by decide⟩ (by decide +kernel) (by decide +kernel) ?_
  refine R_iload_n (pc' := 124) dX8_init_123 rfl rfl ?_
  refine R_new (pc' := 127) dX8_init_124 (by decide) l_RX8_15 w_ins_2 w_ini_LeavesRoom_House (Nat.le_of_ble_eq_true rfl) (Nat.le_of_ble_eq_true rfl) (okR_mk (n := 72) (by decide)) (okR_mk (n := 72) (by decide)) rfl ?_
  refine W_new (n := 72) (k := 100) (xi := 72) (n1 := 73) (kc1 := 72) (ks1 := 892) h26 (by decide +kernel) (by decide +kernel) rfl rfl rfl rfl (fun c27 h27 => ?_)
  refine R_dup (pc' := 128) dX8_init_127 (by simp) rfl ?_
  refine R_callIN (vs := []) (st := [(2, 72), (0, 0), (2, 2)]) (x := 72) (pc' := 131) dX8_init_128 l_RX8_41 (by decide) rfl (by decide) (Nat.le_of_ble_eq_true rfl) (Nat.le_of_ble_eq_true rfl) (Or.inr ⟨(okR_mk (n := 73) (by decide)), (okR_mk (n := 73) (by decide))⟩) rfl ?_
  refine i_X2_72 h27 (fun c28 h28 => ?_)
  show WP K _ mX8_init 75 1012 131 [(2, 0), (2, 7), (0, 0)] [(2, 72), (0, 0), (2, 2)] (76, SH, c28) Q
  refine R_aastore14 (pc' := 132) dX8_init_131 (len := 6) (isC_mk ⟨by decide, by decide⟩ (by decide +kernel)) (by decide) (by decide) (by decide) (len2 := 0) (isC_mk ⟨by decide, by decide⟩ (by decide +kernel)) rfl ?_
  refine W_put (k := 105) (k1 := 106) h28 (by decide +kernel) (by decide +kernel) rfl (fun c29 h29 => ?_)
  refine R_iinc (L' := [(2, 0), (2, 7), (0, 1)]) (pc' := 135) dX8_init_132 rfl (by decide) rfl rfl rfl ?_
  refine R_goto (tgt := 113) dX8_init_135 (by decide) ?_
  refine R_iload_n (pc' := 114) dX8_init_113 rfl rfl ?_
  refine R_bipush (pc' := 116) dX8_init_114 (by decide) rfl ?_
  refine R_icmp_ge (tgt := 138) (pc' := 119) dX8_init_116 (by decide) (ir_l (by decide) (by decide)) (ir_l (by decide) (by decide)) rfl (fun q => absurd q (by decide)) (fun _ => ?_)
  refine R_aload_n (pc' := 120) dX8_init_119 rfl (by decide) rfl ?_
  refine R_getfr (j := 6) (len := 0) (pc' := 123) dX8_init_120 l_RX8_17 (isC_mk ⟨by decide, by decide⟩ (by decide +kernel)) fd8_6.1 fd8_6.2.1 fd8_6.2.2.1 rfl ?_
  refine W_get (k := 106) (v := 2) h29 ⟨by decide, by decide, by decide⟩ (by decide +kernel) (by decide +kernel) ?_
  refine R_iload_n (pc' := 124) dX8_init_123 rfl rfl ?_
  refine R_new (pc' := 127) dX8_init_124 (by decide) l_RX8_15 w_ins_2 w_ini_LeavesRoom_House (Nat.le_of_ble_eq_true rfl) (Nat.le_of_ble_eq_true rfl) (okR_mk (n := 76) (by decide)) (okR_mk (n := 76) (by decide)) rfl ?_
  refine W_new (n := 76) (k := 106) (xi := 76) (n1 := 77) (kc1 := 76) (ks1 := 1020) h29 (by decide +kernel) (by decide +kernel) rfl rfl rfl rfl (fun c30 h30 => ?_)
  refine R_dup (pc' := 128) dX8_init_127 (by simp) rfl ?_
  refine R_callIN (vs := []) (st := [(2, 76), (0, 1), (2, 2)]) (x := 76) (pc' := 131) dX8_init_128 l_RX8_41 (by decide) rfl (by decide) (Nat.le_of_ble_eq_true rfl) (Nat.le_of_ble_eq_true rfl) (Or.inr ⟨(okR_mk (n := 77) (by decide)), (okR_mk (n := 77) (by decide))⟩) rfl ?_
  refine i_X2_76 h30 (fun c31 h31 => ?_)
  show WP K _ mX8_init 79 1140 131 [(2, 0), (2, 7), (0, 1)] [(2, 76), (0, 1), (2, 2)] (80, SH, c31) Q
  refine R_aastore14 (pc' := 132) dX8_init_131 (len := 6) (isC_mk ⟨by decide, by decide⟩ (by decide +kernel)) (by decide) (by decide) (by decide) (len2 := 0) (isC_mk ⟨by decide, by decide⟩ (by decide +kernel)) rfl ?_
  refine W_put (k := 111) (k1 := 112) h31 (by decide +kernel) (by decide +kernel) rfl (fun c32 h32 => ?_)
  refine R_iinc (L' := [(2, 0), (2, 7), (0, 2)]) (pc' := 135) dX8_init_132 rfl (by decide) rfl rfl rfl ?_
  refine R_goto (tgt := 113) dX8_init_135 (by decide) ?_
  refine R_iload_n (pc' := 114) dX8_init_113 rfl rfl ?_
  refine R_bipush (pc' := 116) dX8_init_114 (by decide) rfl ?_
  refine R_icmp_ge (tgt := 138) (pc' := 119) dX8_init_116 (by decide) (ir_l (by decide) (by decide)) (ir_l (by decide) (by decide)) rfl (fun q => absurd q (by decide)) (fun _ => ?_)
  refine R_aload_n (pc' := 120) dX8_init_119 rfl (by decide) rfl ?_
  refine R_getfr (j := 6) (len := 0) (pc' := 123) dX8_init_120 l_RX8_17 (isC_mk ⟨by decide, by decide⟩ (by decide +kernel)) fd8_6.1 fd8_6.2.1 fd8_6.2.2.1 rfl ?_
  refine W_get (k := 112) (v := 2) h32 ⟨by decide, by decide, by decide⟩ (by decide +kernel) (by decide +kernel) ?_
  refine R_iload_n (pc' := 124) dX8_init_123 rfl rfl ?_
  refine R_new (pc' := 127) dX8_init_124 (by decide) l_RX8_15 w_ins_2 w_ini_LeavesRoom_House (Nat.le_of_ble_eq_true rfl) (Nat.le_of_ble_eq_true rfl) (okR_mk (n := 80) (by decide)) (okR_mk (n := 80) (by decide)) rfl ?_
  refine W_new (n := 80) (k := 112) (xi := 80) (n1 := 81) (kc1 := 80) (ks1 := 1148) h32 (by decide +kernel) (by decide +kernel) rfl rfl rfl rfl (fun c33 h33 => ?_)
  refine R_dup (pc' := 128) dX8_init_127 (by simp) rfl ?_
  refine R_callIN (vs := []) (st := [(2, 80), (0, 2), (2, 2)]) (x := 80) (pc' := 131) dX8_init_128 l_RX8_41 (by decide) rfl (by decide) (Nat.le_of_ble_eq_true rfl) (Nat.le_of_ble_eq_true rfl) (Or.inr ⟨(okR_mk (n := 81) (by decide)), (okR_mk (n := 81) (by decide))⟩) rfl ?_
  refine i_X2_80 h33 (fun c34 h34 => ?_)
  show WP K _ mX8_init 83 1268 131 [(2, 0), (2, 7), (0, 2)] [(2, 80), (0, 2), (2, 2)] (84, SH, c34) Q
  refine R_aastore14 (pc' := 132) dX8_init_131 (len := 6) (isC_mk ⟨by decide, by decide⟩ (by decide +kernel)) (by decide) (by decide) (by decide) (len2 := 0) (isC_mk ⟨by decide, by decide⟩ (by decide +kernel)) rfl ?_
  refine W_put (k := 117) (k1 := 118) h34 (by decide +kernel) (by decide +kernel) rfl (fun c35 h35 => ?_)
  refine R_iinc (L' := [(2, 0), (2, 7), (0, 3)]) (pc' := 135) dX8_init_132 rfl (by decide) rfl rfl rfl ?_
  refine R_goto (tgt := 113) dX8_init_135 (by decide) ?_
  refine R_iload_n (pc' := 114) dX8_init_113 rfl rfl ?_
  refine R_bipush (pc' := 116) dX8_init_114 (by decide) rfl ?_
  refine R_icmp_ge (tgt := 138) (pc' := 119) dX8_init_116 (by decide) (ir_l (by decide) (by decide)) (ir_l (by decide) (by decide)) rfl (fun q => absurd q (by decide)) (fun _ => ?_)
  refine R_aload_n (pc' := 120) dX8_init_119 rfl (by decide) rfl ?_
  refine R_getfr (j := 6) (len := 0) (pc' := 123) dX8_init_120 l_RX8_17 (isC_mk ⟨by decide, by decide⟩ (by decide +kernel)) fd8_6.1 fd8_6.2.1 fd8_6.2.2.1 rfl ?_
  refine W_get (k := 118) (v := 2) h35 ⟨by decide, by decide, by decide⟩ (by decide +kernel) (by decide +kernel) ?_
  refine R_iload_n (pc' := 124) dX8_init_123 rfl rfl ?_
  refine R_new (pc' := 127) dX8_init_124 (by decide) l_RX8_15 w_ins_2 w_ini_LeavesRoom_House (Nat.le_of_ble_eq_true rfl) (Nat.le_of_ble_eq_true rfl) (okR_mk (n := 84) (by decide)) (okR_mk (n := 84) (by decide)) rfl ?_
  refine W_new (n := 84) (k := 118) (xi := 84) (n1 := 85) (kc1 := 84) (ks1 := 1276) h35 (by decide +kernel) (by decide +kernel) rfl rfl rfl rfl (fun c36 h36 => ?_)
  refine R_dup (pc' := 128) dX8_init_127 (by simp) rfl ?_
  refine R_callIN (vs := []) (st := [(2, 84), (0, 3), (2, 2)]) (x := 84) (pc' := 131) dX8_init_128 l_RX8_41 (by decide) rfl (by decide) (Nat.le_of_ble_eq_true rfl) (Nat.le_of_ble_eq_true rfl) (Or.inr ⟨(okR_mk (n := 85) (by decide)), (okR_mk (n := 85) (by decide))⟩) rfl ?_
  refine i_X2_84 h36 (fun c37 h37 => ?_)
  show WP K _ mX8_init 87 1396 131 [(2, 0), (2, 7), (0, 3)] [(2, 84), (0, 3), (2, 2)] (88, SH, c37) Q
  refine R_aastore14 (pc' := 132) dX8_init_131 (len := 6) (isC_mk ⟨by decide, by decide⟩ (by decide +kernel)) (by decide) (by decide) (by decide) (len2 := 0) (isC_mk ⟨by decide, by decide⟩ (by decide +kernel)) rfl ?_
  refine W_put (k := 123) (k1 := 124) h37 (by decide +kernel) (by decide +kernel) rfl (fun c38 h38 => ?_)
  refine R_iinc (L' := [(2, 0), (2, 7), (0, 4)]) (pc' := 135) dX8_init_132 rfl (by decide) rfl rfl rfl ?_
  refine R_goto (tgt := 113) dX8_init_135 (by decide) ?_
  refine R_iload_n (pc' := 114) dX8_init_113 rfl rfl ?_
  refine R_bipush (pc' := 116) dX8_init_114 (by decide) rfl ?_
  refine R_icmp_ge (tgt := 138) (pc' := 119) dX8_init_116 (by decide) (ir_l (by decide) (by decide)) (ir_l (by decide) (by decide)) rfl (fun q => absurd q (by decide)) (fun _ => ?_)
  refine R_aload_n (pc' := 120) dX8_init_119 rfl (by decide) rfl ?_
  refine R_getfr (j := 6) (len := 0) (pc' := 123) dX8_init_120 l_RX8_17 (isC_mk ⟨by decide, by decide⟩ (by decide +kernel)) fd8_6.1 fd8_6.2.1 fd8_6.2.2.1 rfl ?_
  refine W_get (k := 124) (v := 2) h38 ⟨by decide, by decide, by decide⟩ (by decide +kernel) (by decide +kernel) ?_
  refine R_iload_n (pc' := 124) dX8_init_123 rfl rfl ?_
  refine R_new (pc' := 127) dX8_init_124 (by decide) l_RX8_15 w_ins_2 w_ini_LeavesRoom_House (Nat.le_of_ble_eq_true rfl) (Nat.le_of_ble_eq_true rfl) (okR_mk (n := 88) (by decide)) (okR_mk (n := 88) (by decide)) rfl ?_
  refine W_new (n := 88) (k := 124) (xi := 88) (n1 := 89) (kc1 := 88) (ks1 := 1404) h38 (by decide +kernel) (by decide +kernel) rfl rfl rfl rfl (fun c39 h39 => ?_)
  refine R_dup (pc' := 128) dX8_init_127 (by simp) rfl ?_
  refine R_callIN (vs := []) (st := [(2, 88), (0, 4), (2, 2)]) (x := 88) (pc' := 131) dX8_init_128 l_RX8_41 (by decide) rfl (by decide) (Nat.le_of_ble_eq_true rfl) (Nat.le_of_ble_eq_true rfl) (Or.inr ⟨(okR_mk (n := 89) (by decide)), (okR_mk (n := 89) (by decide))⟩) rfl ?_
  refine i_X2_88 h39 (fun c40 h40 => ?_)
  show WP K _ mX8_init 91 1524 131 [(2, 0), (2, 7), (0, 4)] [(2, 88), (0, 4), (2, 2)] (92, SH, c40) Q
  refine R_aastore14 (pc' := 132) dX8_init_131 (len := 6) (isC_mk ⟨by decide, by decide⟩ (by decide +kernel)) (by decide) (by decide) (by decide) (len2 := 0) (isC_mk ⟨by decide, by decide⟩ (by decide +kernel)) rfl ?_
  refine W_put (k := 129) (k1 := 130) h40 (by decide +kernel) (by decide +kernel) rfl (fun c41 h41 => ?_)
  refine R_iinc (L' := [(2, 0), (2, 7), (0, 5)]) (pc' := 135) dX8_init_132 rfl (by decide) rfl rfl rfl ?_
  refine R_goto (tgt := 113) dX8_init_135 (by decide) ?_
  refine R_iload_n (pc' := 114) dX8_init_113 rfl rfl ?_
  refine R_bipush (pc' := 116) dX8_init_114 (by decide) rfl ?_
  refine R_icmp_ge (tgt := 138) (pc' := 119) dX8_init_116 (by decide) (ir_l (by decide) (by decide)) (ir_l (by decide) (by decide)) rfl (fun q => absurd q (by decide)) (fun _ => ?_)
  refine R_aload_n (pc' := 120) dX8_init_119 rfl (by decide) rfl ?_
  refine R_getfr (j := 6) (len := 0) (pc' := 123) dX8_init_120 l_RX8_17 (isC_mk ⟨by decide, by decide⟩ (by decide +kernel)) fd8_6.1 fd8_6.2.1 fd8_6.2.2.1 rfl ?_
  refine W_get (k := 130) (v := 2) h41 ⟨by decide, by decide, by decide⟩ (by decide +kernel) (by decide +kernel) ?_
  refine R_iload_n (pc' := 124) dX8_init_123 rfl rfl ?_
  refine R_new (pc' := 127) dX8_init_124 (by decide) l_RX8_15 w_ins_2 w_ini_LeavesRoom_House (Nat.le_of_ble_eq_true rfl) (Nat.le_of_ble_eq_true rfl) (okR_mk (n := 92) (by decide)) (okR_mk (n := 92) (by decide)) rfl ?_
  refine W_new (n := 92) (k := 130) (xi := 92) (n1 := 93) (kc1 := 92) (ks1 := 1532) h41 (by decide +kernel) (by decide +kernel) rfl rfl rfl rfl (fun c42 h42 => ?_)
  refine R_dup (pc' := 128) dX8_init_127 (by simp) rfl ?_
  refine R_callIN (vs := []) (st := [(2, 92), (0, 5), (2, 2)]) (x := 92) (pc' := 131) dX8_init_128 l_RX8_41 (by decide) rfl (by decide) (Nat.le_of_ble_eq_true rfl) (Nat.le_of_ble_eq_true rfl) (Or.inr ⟨(okR_mk (n := 93) (by decide)), (okR_mk (n := 93) (by decide))⟩) rfl ?_
  refine i_X2_92 h42 (fun c43 h43 => ?_)
  show WP K _ mX8_init 95 1652 131 [(2, 0), (2, 7), (0, 5)] [(2, 92), (0, 5), (2, 2)] (96, SH, c43) Q
  refine R_aastore14 (pc' := 132) dX8_init_131 (len := 6) (isC_mk ⟨by decide, by decide⟩ (by decide +kernel)) (by decide) (by decide) (by decide) (len2 := 0) (isC_mk ⟨by decide, by decide⟩ (by decide +kernel)) rfl ?_
  refine W_put (k := 135) (k1 := 136) h43 (by decide +kernel) (by decide +kernel) rfl (fun c44 h44 => ?_)
  refine R_iinc (L' := [(2, 0), (2, 7), (0, 6)]) (pc' := 135) dX8_init_132 rfl (by decide) rfl rfl rfl ?_
  refine R_goto (tgt := 113) dX8_init_135 (by decide) ?_
  refine R_iload_n (pc' := 114) dX8_init_113 rfl rfl ?_
  refine R_bipush (pc' := 116) dX8_init_114 (by decide) rfl ?_
  refine R_icmp_ge (tgt := 138) (pc' := 119) dX8_init_116 (by decide) (ir_l (by decide) (by decide)) (ir_l (by decide) (by decide)) rfl (fun _ => ?_) (fun q => absurd (by decide) q)
  refine R_iconst (pc' := 139) dX8_init_138 rfl ?_
  refine R_istore_n (L' := [(2, 0), (2, 7), (0, 0)]) (pc' := 140) dX8_init_139 (by decide) rfl rfl rfl ?_
  refine R_iload_n (pc' := 141) dX8_init_140 rfl rfl ?_
  refine R_bipush (pc' := 143) dX8_init_141 (by decide) rfl ?_
  refine R_icmp_ge (tgt := 165) (pc' := 146) dX8_init_143 (by decide) (ir_l (by decide) (by decide)) (ir_l (by decide) (by decide)) rfl (fun q => absurd q (by decide)) (fun _ => ?_)
  refine R_aload_n (pc' := 147) dX8_init_146 rfl (by decide) rfl ?_
  refine R_getfr (j := 11) (len := 0) (pc' := 150) dX8_init_147 l_RX8_37 (isC_mk ⟨by decide, by decide⟩ (by decide +kernel)) fd8_11.1 fd8_11.2.1 fd8_11.2.2.1 rfl ?_
  refine W_get (k := 136) (v := 6) h44 ⟨by decide, by decide, by decide⟩ (by decide +kernel) (by decide +kernel) ?_
  refine R_iload_n (pc' := 151) dX8_init_150 rfl rfl ?_
  refine R_new (pc' := 154) dX8_init_151 (by decide) l_RX8_35 w_ins_7 w_ini_LeavesRoom_Tape (Nat.le_of_ble_eq_true rfl) (Nat.le_of_ble_eq_true rfl) (okR_mk (n := 96) (by decide)) (okR_mk (n := 96) (by decide)) rfl ?_
  refine W_new (n := 96) (k := 136) (xi := 96) (n1 := 97) (kc1 := 96) (ks1 := 1655) h44 (by decide +kernel) (by decide +kernel) rfl rfl rfl rfl (fun c45 h45 => ?_)
  refine R_dup (pc' := 155) dX8_init_154 (by simp) rfl ?_
  refine R_callIN (vs := []) (st := [(2, 96), (0, 0), (2, 6)]) (x := 96) (pc' := 158) dX8_init_155 l_RX8_70 (by decide) rfl (by decide) (Nat.le_of_ble_eq_true rfl) (Nat.le_of_ble_eq_true rfl) (Or.inr ⟨(okR_mk (n := 97) (by decide)), (okR_mk (n := 97) (by decide))⟩) rfl ?_
  refine i_X7_96 h45 (fun c46 h46 => ?_)
  show WP K _ mX8_init 97 1715 158 [(2, 0), (2, 7), (0, 0)] [(2, 96), (0, 0), (2, 6)] (98, SH, c46) Q
  refine R_aastore15 (pc' := 159) dX8_init_158 (len := 6) (isC_mk ⟨by decide, by decide⟩ (by decide +kernel)) (by decide) (by decide) (by decide) (len2 := 0) (isC_mk ⟨by decide, by decide⟩ (by decide +kernel)) rfl ?_
  refine W_put (k := 138) (k1 := 139) h46 (by decide +kernel) (by decide +kernel) rfl (fun c47 h47 => ?_)
  refine R_iinc (L' := [(2, 0), (2, 7), (0, 1)]) (pc' := 162) dX8_init_159 rfl (by decide) rfl rfl rfl ?_
  refine R_goto (tgt := 140) dX8_init_162 (by decide) ?_
  refine R_iload_n (pc' := 141) dX8_init_140 rfl rfl ?_
  refine R_bipush (pc' := 143) dX8_init_141 (by decide) rfl ?_
  refine R_icmp_ge (tgt := 165) (pc' := 146) dX8_init_143 (by decide) (ir_l (by decide) (by decide)) (ir_l (by decide) (by decide)) rfl (fun q => absurd q (by decide)) (fun _ => ?_)
  refine R_aload_n (pc' := 147) dX8_init_146 rfl (by decide) rfl ?_
  refine R_getfr (j := 11) (len := 0) (pc' := 150) dX8_init_147 l_RX8_37 (isC_mk ⟨by decide, by decide⟩ (by decide +kernel)) fd8_11.1 fd8_11.2.1 fd8_11.2.2.1 rfl ?_
  refine W_get (k := 139) (v := 6) h47 ⟨by decide, by decide, by decide⟩ (by decide +kernel) (by decide +kernel) ?_
  refine R_iload_n (pc' := 151) dX8_init_150 rfl rfl ?_
  refine R_new (pc' := 154) dX8_init_151 (by decide) l_RX8_35 w_ins_7 w_ini_LeavesRoom_Tape (Nat.le_of_ble_eq_true rfl) (Nat.le_of_ble_eq_true rfl) (okR_mk (n := 98) (by decide)) (okR_mk (n := 98) (by decide)) rfl ?_
  refine W_new (n := 98) (k := 139) (xi := 98) (n1 := 99) (kc1 := 98) (ks1 := 1718) h47 (by decide +kernel) (by decide +kernel) rfl rfl rfl rfl (fun c48 h48 => ?_)
  refine R_dup (pc' := 155) dX8_init_154 (by simp) rfl ?_
  refine R_callIN (vs := []) (st := [(2, 98), (0, 1), (2, 6)]) (x := 98) (pc' := 158) dX8_init_155 l_RX8_70 (by decide) rfl (by decide) (Nat.le_of_ble_eq_true rfl) (Nat.le_of_ble_eq_true rfl) (Or.inr ⟨(okR_mk (n := 99) (by decide)), (okR_mk (n := 99) (by decide))⟩) rfl ?_
  refine i_X7_98 h48 (fun c49 h49 => ?_)
  show WP K _ mX8_init 99 1778 158 [(2, 0), (2, 7), (0, 1)] [(2, 98), (0, 1), (2, 6)] (100, SH, c49) Q
  refine R_aastore15 (pc' := 159) dX8_init_158 (len := 6) (isC_mk ⟨by decide, by decide⟩ (by decide +kernel)) (by decide) (by decide) (by decide) (len2 := 0) (isC_mk ⟨by decide, by decide⟩ (by decide +kernel)) rfl ?_
  refine W_put (k := 141) (k1 := 142) h49 (by decide +kernel) (by decide +kernel) rfl (fun c50 h50 => ?_)
  refine R_iinc (L' := [(2, 0), (2, 7), (0, 2)]) (pc' := 162) dX8_init_159 rfl (by decide) rfl rfl rfl ?_
  refine R_goto (tgt := 140) dX8_init_162 (by decide) ?_
  refine R_iload_n (pc' := 141) dX8_init_140 rfl rfl ?_
  refine R_bipush (pc' := 143) dX8_init_141 (by decide) rfl ?_
  refine R_icmp_ge (tgt := 165) (pc' := 146) dX8_init_143 (by decide) (ir_l (by decide) (by decide)) (ir_l (by decide) (by decide)) rfl (fun q => absurd q (by decide)) (fun _ => ?_)
  refine R_aload_n (pc' := 147) dX8_init_146 rfl (by decide) rfl ?_
  refine R_getfr (j := 11) (len := 0) (pc' := 150) dX8_init_147 l_RX8_37 (isC_mk ⟨by decide, by decide⟩ (by decide +kernel)) fd8_11.1 fd8_11.2.1 fd8_11.2.2.1 rfl ?_
  refine W_get (k := 142) (v := 6) h50 ⟨by decide, by decide, by decide⟩ (by decide +kernel) (by decide +kernel) ?_
  refine R_iload_n (pc' := 151) dX8_init_150 rfl rfl ?_
  refine R_new (pc' := 154) dX8_init_151 (by decide) l_RX8_35 w_ins_7 w_ini_LeavesRoom_Tape (Nat.le_of_ble_eq_true rfl) (Nat.le_of_ble_eq_true rfl) (okR_mk (n := 100) (by decide)) (okR_mk (n := 100) (by decide)) rfl ?_
  refine W_new (n := 100) (k := 142) (xi := 100) (n1 := 101) (kc1 := 100) (ks1 := 1781) h50 (by decide +kernel) (by decide +kernel) rfl rfl rfl rfl (fun c51 h51 => ?_)
  refine R_dup (pc' := 155) dX8_init_154 (by simp) rfl ?_
  refine R_callIN (vs := []) (st := [(2, 100), (0, 2), (2, 6)]) (x := 100) (pc' := 158) dX8_init_155 l_RX8_70 (by decide) rfl (by decide) (Nat.le_of_ble_eq_true rfl) (Nat.le_of_ble_eq_true rfl) (Or.inr ⟨(okR_mk (n := 101) (by decide)), (okR_mk (n := 101) (by decide))⟩) rfl ?_
  refine i_X7_100 h51 (fun c52 h52 => ?_)
  show WP K _ mX8_init 101 1841 158 [(2, 0), (2, 7), (0, 2)] [(2, 100), (0, 2), (2, 6)] (102, SH, c52) Q
  refine R_aastore15 (pc' := 159) dX8_init_158 (len := 6) (isC_mk ⟨by decide, by decide⟩ (by decide +kernel)) (by decide) (by decide) (by decide) (len2 := 0) (isC_mk ⟨by decide, by decide⟩ (by decide +kernel)) rfl ?_
  refine W_put (k := 144) (k1 := 145) h52 (by decide +kernel) (by decide +kernel) rfl (fun c53 h53 => ?_)
  refine R_iinc (L' := [(2, 0), (2, 7), (0, 3)]) (pc' := 162) dX8_init_159 rfl (by decide) rfl rfl rfl ?_
  refine R_goto (tgt := 140) dX8_init_162 (by decide) ?_
  refine R_iload_n (pc' := 141) dX8_init_140 rfl rfl ?_
  refine R_bipush (pc' := 143) dX8_init_141 (by decide) rfl ?_
  refine R_icmp_ge (tgt := 165) (pc' := 146) dX8_init_143 (by decide) (ir_l (by decide) (by decide)) (ir_l (by decide) (by decide)) rfl (fun q => absurd q (by decide)) (fun _ => ?_)
  refine R_aload_n (pc' := 147) dX8_init_146 rfl (by decide) rfl ?_
  refine R_getfr (j := 11) (len := 0) (pc' := 150) dX8_init_147 l_RX8_37 (isC_mk ⟨by decide, by decide⟩ (by decide +kernel)) fd8_11.1 fd8_11.2.1 fd8_11.2.2.1 rfl ?_
  refine W_get (k := 145) (v := 6) h53 ⟨by decide, by decide, by decide⟩ (by decide +kernel) (by decide +kernel) ?_
  refine R_iload_n (pc' := 151) dX8_init_150 rfl rfl ?_
  refine R_new (pc' := 154) dX8_init_151 (by decide) l_RX8_35 w_ins_7 w_ini_LeavesRoom_Tape (Nat.le_of_ble_eq_true rfl) (Nat.le_of_ble_eq_true rfl) (okR_mk (n := 102) (by decide)) (okR_mk (n := 102) (by decide)) rfl ?_
  refine W_new (n := 102) (k := 145) (xi := 102) (n1 := 103) (kc1 := 102) (ks1 := 1844) h53 (by decide +kernel) (by decide +kernel) rfl rfl rfl rfl (fun c54 h54 => ?_)
  refine R_dup (pc' := 155) dX8_init_154 (by simp) rfl ?_
  refine R_callIN (vs := []) (st := [(2, 102), (0, 3), (2, 6)]) (x := 102) (pc' := 158) dX8_init_155 l_RX8_70 (by decide) rfl (by decide) (Nat.le_of_ble_eq_true rfl) (Nat.le_of_ble_eq_true rfl) (Or.inr ⟨(okR_mk (n := 103) (by decide)), (okR_mk (n := 103) (by decide))⟩) rfl ?_
  refine i_X7_102 h54 (fun c55 h55 => ?_)
  show WP K _ mX8_init 103 1904 158 [(2, 0), (2, 7), (0, 3)] [(2, 102), (0, 3), (2, 6)] (104, SH, c55) Q
  refine R_aastore15 (pc' := 159) dX8_init_158 (len := 6) (isC_mk ⟨by decide, by decide⟩ (by decide +kernel)) (by decide) (by decide) (by decide) (len2 := 0) (isC_mk ⟨by decide, by decide⟩ (by decide +kernel)) rfl ?_
  refine W_put (k := 147) (k1 := 148) h55 (by decide +kernel) (by decide +kernel) rfl (fun c56 h56 => ?_)
  refine R_iinc (L' := [(2, 0), (2, 7), (0, 4)]) (pc' := 162) dX8_init_159 rfl (by decide) rfl rfl rfl ?_
  refine R_goto (tgt := 140) dX8_init_162 (by decide) ?_
  refine R_iload_n (pc' := 141) dX8_init_140 rfl rfl ?_
  refine R_bipush (pc' := 143) dX8_init_141 (by decide) rfl ?_
  refine R_icmp_ge (tgt := 165) (pc' := 146) dX8_init_143 (by decide) (ir_l (by decide) (by decide)) (ir_l (by decide) (by decide)) rfl (fun q => absurd q (by decide)) (fun _ => ?_)
  refine R_aload_n (pc' := 147) dX8_init_146 rfl (by decide) rfl ?_
  refine R_getfr (j := 11) (len := 0) (pc' := 150) dX8_init_147 l_RX8_37 (isC_mk ⟨by decide, by decide⟩ (by decide +kernel)) fd8_11.1 fd8_11.2.1 fd8_11.2.2.1 rfl ?_
  refine W_get (k := 148) (v := 6) h56 ⟨by decide, by decide, by decide⟩ (by decide +kernel) (by decide +kernel) ?_
  refine R_iload_n (pc' := 151) dX8_init_150 rfl rfl ?_
  refine R_new (pc' := 154) dX8_init_151 (by decide) l_RX8_35 w_ins_7 w_ini_LeavesRoom_Tape (Nat.le_of_ble_eq_true rfl) (Nat.le_of_ble_eq_true rfl) (okR_mk (n := 104) (by decide)) (okR_mk (n := 104) (by decide)) rfl ?_
  refine W_new (n := 104) (k := 148) (xi := 104) (n1 := 105) (kc1 := 104) (ks1 := 1907) h56 (by decide +kernel) (by decide +kernel) rfl rfl rfl rfl (fun c57 h57 => ?_)
  refine R_dup (pc' := 155) dX8_init_154 (by simp) rfl ?_
  refine R_callIN (vs := []) (st := [(2, 104), (0, 4), (2, 6)]) (x := 104) (pc' := 158) dX8_init_155 l_RX8_70 (by decide) rfl (by decide) (Nat.le_of_ble_eq_true rfl) (Nat.le_of_ble_eq_true rfl) (Or.inr ⟨(okR_mk (n := 105) (by decide)), (okR_mk (n := 105) (by decide))⟩) rfl ?_
  refine i_X7_104 h57 (fun c58 h58 => ?_)
  show WP K _ mX8_init 105 1967 158 [(2, 0), (2, 7), (0, 4)] [(2, 104), (0, 4), (2, 6)] (106, SH, c58) Q
  refine R_aastore15 (pc' := 159) dX8_init_158 (len := 6) (isC_mk ⟨by decide, by decide⟩ (by decide +kernel)) (by decide) (by decide) (by decide) (len2 := 0) (isC_mk ⟨by decide, by decide⟩ (by decide +kernel)) rfl ?_
  refine W_put (k := 150) (k1 := 151) h58 (by decide +kernel) (by decide +kernel) rfl (fun c59 h59 => ?_)
  refine R_iinc (L' := [(2, 0), (2, 7), (0, 5)]) (pc' := 162) dX8_init_159 rfl (by decide) rfl rfl rfl ?_
  refine R_goto (tgt := 140) dX8_init_162 (by decide) ?_
  refine R_iload_n (pc' := 141) dX8_init_140 rfl rfl ?_
  refine R_bipush (pc' := 143) dX8_init_141 (by decide) rfl ?_
  refine R_icmp_ge (tgt := 165) (pc' := 146) dX8_init_143 (by decide) (ir_l (by decide) (by decide)) (ir_l (by decide) (by decide)) rfl (fun q => absurd q (by decide)) (fun _ => ?_)
  refine R_aload_n (pc' := 147) dX8_init_146 rfl (by decide) rfl ?_
  refine R_getfr (j := 11) (len := 0) (pc' := 150) dX8_init_147 l_RX8_37 (isC_mk ⟨by decide, by decide⟩ (by decide +kernel)) fd8_11.1 fd8_11.2.1 fd8_11.2.2.1 rfl ?_
  refine W_get (k := 151) (v := 6) h59 ⟨by decide, by decide, by decide⟩ (by decide +kernel) (by decide +kernel) ?_
  refine R_iload_n (pc' := 151) dX8_init_150 rfl rfl ?_
  refine R_new (pc' := 154) dX8_init_151 (by decide) l_RX8_35 w_ins_7 w_ini_LeavesRoom_Tape (Nat.le_of_ble_eq_true rfl) (Nat.le_of_ble_eq_true rfl) (okR_mk (n := 106) (by decide)) (okR_mk (n := 106) (by decide)) rfl ?_
  refine W_new (n := 106) (k := 151) (xi := 106) (n1 := 107) (kc1 := 106) (ks1 := 1970) h59 (by decide +kernel) (by decide +kernel) rfl rfl rfl rfl (fun c60 h60 => ?_)
  refine R_dup (pc' := 155) dX8_init_154 (by simp) rfl ?_
  refine R_callIN (vs := []) (st := [(2, 106), (0, 5), (2, 6)]) (x := 106) (pc' := 158) dX8_init_155 l_RX8_70 (by decide) rfl (by decide) (Nat.le_of_ble_eq_true rfl) (Nat.le_of_ble_eq_true rfl) (Or.inr ⟨(okR_mk (n := 107) (by decide)), (okR_mk (n := 107) (by decide))⟩) rfl ?_
  refine i_X7_106 h60 (fun c61 h61 => ?_)
  show WP K _ mX8_init 107 2030 158 [(2, 0), (2, 7), (0, 5)] [(2, 106), (0, 5), (2, 6)] (108, SH, c61) Q
  refine R_aastore15 (pc' := 159) dX8_init_158 (len := 6) (isC_mk ⟨by decide, by decide⟩ (by decide +kernel)) (by decide) (by decide) (by decide) (len2 := 0) (isC_mk ⟨by decide, by decide⟩ (by decide +kernel)) rfl ?_
  refine W_put (k := 153) (k1 := 154) h61 (by decide +kernel) (by decide +kernel) rfl (fun c62 h62 => ?_)
  refine R_iinc (L' := [(2, 0), (2, 7), (0, 6)]) (pc' := 162) dX8_init_159 rfl (by decide) rfl rfl rfl ?_
  refine R_goto (tgt := 140) dX8_init_162 (by decide) ?_
  refine R_iload_n (pc' := 141) dX8_init_140 rfl rfl ?_
  refine R_bipush (pc' := 143) dX8_init_141 (by decide) rfl ?_
  refine R_icmp_ge (tgt := 165) (pc' := 146) dX8_init_143 (by decide) (ir_l (by decide) (by decide)) (ir_l (by decide) (by decide)) rfl (fun _ => ?_) (fun q => absurd (by decide) q)
  exact R_ret dX8_init_165 rfl (Nat.le_of_ble_eq_true rfl) (Nat.le_of_ble_eq_true rfl) (hQ c62 h62)
