/-! LAW: segments -/
set_option maxRecDepth 100000 in
theorem s_L_law_18 {K : SK} {d kc ks : Nat} {c : ct} {Q : hp → av → Prop} (hkc : kc ≤ mL_law.2.2.2.2.1) (hks : ks ≤ mL_law.2.2.2.2.2) (a3 : Int) (h : (ir a3 ∧ ir ((K.2.1 : Int) - 6)) ∧ (((K.2.1 : Int) - 6) < a3 → Q (wG c) (0, 1)) ∧ (¬ (((K.2.1 : Int) - 6) < a3) → ((0 ≤ a3 ∧ a3 < (K.2.1 : Int))) ∧ ir (bAnd (roC K 0 (Int.toNat a3)) 63) ∧ ((bAnd (roC K 0 (Int.toNat a3)) 63) = 0 → WP K (d + 1) mL_law kc ks 196 [(3, ((0 : Nat) : Int)), (2, 0), (2, 108), (0, a3)] [] (wG c) Q) ∧ ((bAnd (roC K 0 (Int.toNat a3)) 63) = 1 → WP K (d + 1) mL_law kc ks 229 [(3, ((0 : Nat) : Int)), (2, 0), (2, 108), (0, a3)] [] (wG c) Q) ∧ ((bAnd (roC K 0 (Int.toNat a3)) 63) = 2 → WP K (d + 1) mL_law kc ks 262 [(3, ((0 : Nat) : Int)), (2, 0), (2, 108), (0, a3)] [] (wG c) Q) ∧ ((bAnd (roC K 0 (Int.toNat a3)) 63) = 3 → WP K (d + 1) mL_law kc ks 295 [(3, ((0 : Nat) : Int)), (2, 0), (2, 108), (0, a3)] [] (wG c) Q) ∧ ((bAnd (roC K 0 (Int.toNat a3)) 63) = 4 → WP K (d + 1) mL_law kc ks 328 [(3, ((0 : Nat) : Int)), (2, 0), (2, 108), (0, a3)] [] (wG c) Q) ∧ ((bAnd (roC K 0 (Int.toNat a3)) 63) = 5 → WP K (d + 1) mL_law kc ks 377 [(3, ((0 : Nat) : Int)), (2, 0), (2, 108), (0, a3)] [] (wG c) Q) ∧ ((bAnd (roC K 0 (Int.toNat a3)) 63) = 6 → WP K (d + 1) mL_law kc ks 400 [(3, ((0 : Nat) : Int)), (2, 0), (2, 108), (0, a3)] [] (wG c) Q) ∧ ((bAnd (roC K 0 (Int.toNat a3)) 63) = 7 → WP K (d + 1) mL_law kc ks 443 [(3, ((0 : Nat) : Int)), (2, 0), (2, 108), (0, a3)] [] (wG c) Q) ∧ ((bAnd (roC K 0 (Int.toNat a3)) 63) = 8 → WP K (d + 1) mL_law kc ks 466 [(3, ((0 : Nat) : Int)), (2, 0), (2, 108), (0, a3)] [] (wG c) Q) ∧ ((bAnd (roC K 0 (Int.toNat a3)) 63) = 9 → WP K (d + 1) mL_law kc ks 479 [(3, ((0 : Nat) : Int)), (2, 0), (2, 108), (0, a3)] [] (wG c) Q) ∧ ((bAnd (roC K 0 (Int.toNat a3)) 63) = 10 → WP K (d + 1) mL_law kc ks 502 [(3, ((0 : Nat) : Int)), (2, 0), (2, 108), (0, a3)] [] (wG c) Q) ∧ ((bAnd (roC K 0 (Int.toNat a3)) 63) = 11 → WP K (d + 1) mL_law kc ks 525 [(3, ((0 : Nat) : Int)), (2, 0), (2, 108), (0, a3)] [] (wG c) Q) ∧ ((bAnd (roC K 0 (Int.toNat a3)) 63) = 12 → WP K (d + 1) mL_law kc ks 558 [(3, ((0 : Nat) : Int)), (2, 0), (2, 108), (0, a3)] [] (wG c) Q) ∧ ((bAnd (roC K 0 (Int.toNat a3)) 63) = 13 → WP K (d + 1) mL_law kc ks 581 [(3, ((0 : Nat) : Int)), (2, 0), (2, 108), (0, a3)] [] (wG c) Q) ∧ ((bAnd (roC K 0 (Int.toNat a3)) 63) = 14 → WP K (d + 1) mL_law kc ks 604 [(3, ((0 : Nat) : Int)), (2, 0), (2, 108), (0, a3)] [] (wG c) Q) ∧ ((bAnd (roC K 0 (Int.toNat a3)) 63) = 15 → WP K (d + 1) mL_law kc ks 627 [(3, ((0 : Nat) : Int)), (2, 0), (2, 108), (0, a3)] [] (wG c) Q) ∧ ((bAnd (roC K 0 (Int.toNat a3)) 63) = 16 → WP K (d + 1) mL_law kc ks 640 [(3, ((0 : Nat) : Int)), (2, 0), (2, 108), (0, a3)] [] (wG c) Q) ∧ ((bAnd (roC K 0 (Int.toNat a3)) 63) = 17 → WP K (d + 1) mL_law kc ks 663 [(3, ((0 : Nat) : Int)), (2, 0), (2, 108), (0, a3)] [] (wG c) Q) ∧ ((bAnd (roC K 0 (Int.toNat a3)) 63) = 18 → WP K (d + 1) mL_law kc ks 722 [(3, ((0 : Nat) : Int)), (2, 0), (2, 108), (0, a3)] [] (wG c) Q) ∧ ((bAnd (roC K 0 (Int.toNat a3)) 63) = 19 → WP K (d + 1) mL_law kc ks 745 [(3, ((0 : Nat) : Int)), (2, 0), (2, 108), (0, a3)] [] (wG c) Q) ∧ ((bAnd (roC K 0 (Int.toNat a3)) 63) = 20 → WP K (d + 1) mL_law kc ks 778 [(3, ((0 : Nat) : Int)), (2, 0), (2, 108), (0, a3)] [] (wG c) Q) ∧ ((bAnd (roC K 0 (Int.toNat a3)) 63) = 21 → WP K (d + 1) mL_law kc ks 812 [(3, ((0 : Nat) : Int)), (2, 0), (2, 108), (0, a3)] [] (wG c) Q) ∧ ((bAnd (roC K 0 (Int.toNat a3)) 63) = 22 → WP K (d + 1) mL_law kc ks 836 [(3, ((0 : Nat) : Int)), (2, 0), (2, 108), (0, a3)] [] (wG c) Q) ∧ ((bAnd (roC K 0 (Int.toNat a3)) 63) = 23 → WP K (d + 1) mL_law kc ks 869 [(3, ((0 : Nat) : Int)), (2, 0), (2, 108), (0, a3)] [] (wG c) Q) ∧ ((bAnd (roC K 0 (Int.toNat a3)) 63) = 24 → WP K (d + 1) mL_law kc ks 892 [(3, ((0 : Nat) : Int)), (2, 0), (2, 108), (0, a3)] [] (wG c) Q) ∧ ((bAnd (roC K 0 (Int.toNat a3)) 63) = 25 → WP K (d + 1) mL_law kc ks 925 [(3, ((0 : Nat) : Int)), (2, 0), (2, 108), (0, a3)] [] (wG c) Q) ∧ ((bAnd (roC K 0 (Int.toNat a3)) 63) = 26 → WP K (d + 1) mL_law kc ks 938 [(3, ((0 : Nat) : Int)), (2, 0), (2, 108), (0, a3)] [] (wG c) Q) ∧ ((bAnd (roC K 0 (Int.toNat a3)) 63) = 27 → WP K (d + 1) mL_law kc ks 971 [(3, ((0 : Nat) : Int)), (2, 0), (2, 108), (0, a3)] [] (wG c) Q) ∧ ((bAnd (roC K 0 (Int.toNat a3)) 63) = 28 → WP K (d + 1) mL_law kc ks 984 [(3, ((0 : Nat) : Int)), (2, 0), (2, 108), (0, a3)] [] (wG c) Q) ∧ ((bAnd (roC K 0 (Int.toNat a3)) 63) = 29 → WP K (d + 1) mL_law kc ks 997 [(3, ((0 : Nat) : Int)), (2, 0), (2, 108), (0, a3)] [] (wG c) Q) ∧ ((bAnd (roC K 0 (Int.toNat a3)) 63) = 30 → WP K (d + 1) mL_law kc ks 1040 [(3, ((0 : Nat) : Int)), (2, 0), (2, 108), (0, a3)] [] (wG c) Q) ∧ ((bAnd (roC K 0 (Int.toNat a3)) 63) = 31 → WP K (d + 1) mL_law kc ks 1063 [(3, ((0 : Nat) : Int)), (2, 0), (2, 108), (0, a3)] [] (wG c) Q) ∧ ((bAnd (roC K 0 (Int.toNat a3)) 63) = 32 → WP K (d + 1) mL_law kc ks 1096 [(3, ((0 : Nat) : Int)), (2, 0), (2, 108), (0, a3)] [] (wG c) Q) ∧ ((bAnd (roC K 0 (Int.toNat a3)) 63) = 33 → WP K (d + 1) mL_law kc ks 1119 [(3, ((0 : Nat) : Int)), (2, 0), (2, 108), (0, a3)] [] (wG c) Q) ∧ ((bAnd (roC K 0 (Int.toNat a3)) 63) = 34 → WP K (d + 1) mL_law kc ks 1162 [(3, ((0 : Nat) : Int)), (2, 0), (2, 108), (0, a3)] [] (wG c) Q) ∧ ((bAnd (roC K 0 (Int.toNat a3)) 63) = 35 → WP K (d + 1) mL_law kc ks 1235 [(3, ((0 : Nat) : Int)), (2, 0), (2, 108), (0, a3)] [] (wG c) Q) ∧ ((bAnd (roC K 0 (Int.toNat a3)) 63) = 36 → WP K (d + 1) mL_law kc ks 1269 [(3, ((0 : Nat) : Int)), (2, 0), (2, 108), (0, a3)] [] (wG c) Q) ∧ (((bAnd (roC K 0 (Int.toNat a3)) 63) < 0 ∨ 36 < (bAnd (roC K 0 (Int.toNat a3)) 63)) → WP K (d + 1) mL_law kc ks 1332 [(3, ((0 : Nat) : Int)), (2, 0), (2, 108), (0, a3)] [] (wG c) Q))) : WP K (d + 1) mL_law kc ks 18 [(3, ((0 : Nat) : Int)), (2, 0), (2, 108), (0, a3)] [] (wG c) Q := by
  refine R_iload_n (pc' := 19) dL_law_18 rfl rfl ?_
  refine R_aload_n3 (pc' := 20) dL_law_19 rfl rfl ?_
  refine R_rolen (i := 0) (pc' := 21) dL_law_20 (by decide) rfl ?_
  refine R_bipush (pc' := 23) dL_law_21 (by decide) rfl ?_
  refine R_isub (pc' := 24) dL_law_23 rfl ?_
  have hs2 := h.1
  have h := h.2
  refine R_icmp_gt (tgt := 1338) (pc' := 27) dL_law_24 (by decide) hs2.1 hs2.2 rfl (fun hc1 => ?_) (fun hc1 => ?_)
  · have h := h.1 hc1
    refine R_iconst (pc' := 1339) dL_law_1338 rfl ?_
    exact R_zret dL_law_1339 rfl (nar_bool (Or.inr rfl)).1 hkc hks h
  · have h := h.2 hc1
    refine R_aload_n3 (pc' := 28) dL_law_27 rfl rfl ?_
    refine R_iload_n (pc' := 29) dL_law_28 rfl rfl ?_
    have hs3 := h.1
    have h := h.2
    refine Q_roload (i := 0) (N := (K.2.1 : Int)) (pc' := 30) rfl dL_law_29 (by decide) hs3 rfl ?_
    refine R_bipush (pc' := 32) dL_law_30 (by decide) rfl ?_
    refine R_iand (pc' := 33) dL_law_32 rfl ?_
    have hs0 := h.1
    have h := h.2
    rcases (show (bAnd (roC K 0 (Int.toNat a3)) 63) = 0 ∨ (bAnd (roC K 0 (Int.toNat a3)) 63) = 1 ∨ (bAnd (roC K 0 (Int.toNat a3)) 63) = 2 ∨ (bAnd (roC K 0 (Int.toNat a3)) 63) = 3 ∨ (bAnd (roC K 0 (Int.toNat a3)) 63) = 4 ∨ (bAnd (roC K 0 (Int.toNat a3)) 63) = 5 ∨ (bAnd (roC K 0 (Int.toNat a3)) 63) = 6 ∨ (bAnd (roC K 0 (Int.toNat a3)) 63) = 7 ∨ (bAnd (roC K 0 (Int.toNat a3)) 63) = 8 ∨ (bAnd (roC K 0 (Int.toNat a3)) 63) = 9 ∨ (bAnd (roC K 0 (Int.toNat a3)) 63) = 10 ∨ (bAnd (roC K 0 (Int.toNat a3)) 63) = 11 ∨ (bAnd (roC K 0 (Int.toNat a3)) 63) = 12 ∨ (bAnd (roC K 0 (Int.toNat a3)) 63) = 13 ∨ (bAnd (roC K 0 (Int.toNat a3)) 63) = 14 ∨ (bAnd (roC K 0 (Int.toNat a3)) 63) = 15 ∨ (bAnd (roC K 0 (Int.toNat a3)) 63) = 16 ∨ (bAnd (roC K 0 (Int.toNat a3)) 63) = 17 ∨ (bAnd (roC K 0 (Int.toNat a3)) 63) = 18 ∨ (bAnd (roC K 0 (Int.toNat a3)) 63) = 19 ∨ (bAnd (roC K 0 (Int.toNat a3)) 63) = 20 ∨ (bAnd (roC K 0 (Int.toNat a3)) 63) = 21 ∨ (bAnd (roC K 0 (Int.toNat a3)) 63) = 22 ∨ (bAnd (roC K 0 (Int.toNat a3)) 63) = 23 ∨ (bAnd (roC K 0 (Int.toNat a3)) 63) = 24 ∨ (bAnd (roC K 0 (Int.toNat a3)) 63) = 25 ∨ (bAnd (roC K 0 (Int.toNat a3)) 63) = 26 ∨ (bAnd (roC K 0 (Int.toNat a3)) 63) = 27 ∨ (bAnd (roC K 0 (Int.toNat a3)) 63) = 28 ∨ (bAnd (roC K 0 (Int.toNat a3)) 63) = 29 ∨ (bAnd (roC K 0 (Int.toNat a3)) 63) = 30 ∨ (bAnd (roC K 0 (Int.toNat a3)) 63) = 31 ∨ (bAnd (roC K 0 (Int.toNat a3)) 63) = 32 ∨ (bAnd (roC K 0 (Int.toNat a3)) 63) = 33 ∨ (bAnd (roC K 0 (Int.toNat a3)) 63) = 34 ∨ (bAnd (roC K 0 (Int.toNat a3)) 63) = 35 ∨ (bAnd (roC K 0 (Int.toNat a3)) 63) = 36 ∨ ((bAnd (roC K 0 (Int.toNat a3)) 63) < 0 ∨ 36 < (bAnd (roC K 0 (Int.toNat a3)) 63)) by omega) with hk | hk | hk | hk | hk | hk | hk | hk | hk | hk | hk | hk | hk | hk | hk | hk | hk | hk | hk | hk | hk | hk | hk | hk | hk | hk | hk | hk | hk | hk | hk | hk | hk | hk | hk | hk | hk | hk
    · have h := h.1 hk
      refine R_tableAt (tgt := 196) 0 hk dL_law_33 (ir_l (by decide) (by decide)) (by decide) rfl (by decide) ?_
      exact WP_wk (wk_e (wk_e (wk_e (wk_e wk_n)))) h
    · have h := h.2.1 hk
      refine R_tableAt (tgt := 229) 1 hk dL_law_33 (ir_l (by decide) (by decide)) (by decide) rfl (by decide) ?_
      exact WP_wk (wk_e (wk_e (wk_e (wk_e wk_n)))) h
    · have h := h.2.2.1 hk
      refine R_tableAt (tgt := 262) 2 hk dL_law_33 (ir_l (by decide) (by decide)) (by decide) rfl (by decide) ?_
      exact WP_wk (wk_e (wk_e (wk_e (wk_e wk_n)))) h
    · have h := h.2.2.2.1 hk
      refine R_tableAt (tgt := 295) 3 hk dL_law_33 (ir_l (by decide) (by decide)) (by decide) rfl (by decide) ?_
      exact WP_wk (wk_e (wk_e (wk_e (wk_e wk_n)))) h
    · have h := h.2.2.2.2.1 hk
      refine R_tableAt (tgt := 328) 4 hk dL_law_33 (ir_l (by decide) (by decide)) (by decide) rfl (by decide) ?_
      exact WP_wk (wk_e (wk_e (wk_e (wk_e wk_n)))) h
    · have h := h.2.2.2.2.2.1 hk
      refine R_tableAt (tgt := 377) 5 hk dL_law_33 (ir_l (by decide) (by decide)) (by decide) rfl (by decide) ?_
      exact WP_wk (wk_e (wk_e (wk_e (wk_e wk_n)))) h
    · have h := h.2.2.2.2.2.2.1 hk
      refine R_tableAt (tgt := 400) 6 hk dL_law_33 (ir_l (by decide) (by decide)) (by decide) rfl (by decide) ?_
      exact WP_wk (wk_e (wk_e (wk_e (wk_e wk_n)))) h
    · have h := h.2.2.2.2.2.2.2.1 hk
      refine R_tableAt (tgt := 443) 7 hk dL_law_33 (ir_l (by decide) (by decide)) (by decide) rfl (by decide) ?_
      exact WP_wk (wk_e (wk_e (wk_e (wk_e wk_n)))) h
    · have h := h.2.2.2.2.2.2.2.2.1 hk
      refine R_tableAt (tgt := 466) 8 hk dL_law_33 (ir_l (by decide) (by decide)) (by decide) rfl (by decide) ?_
      exact WP_wk (wk_e (wk_e (wk_e (wk_e wk_n)))) h
    · have h := h.2.2.2.2.2.2.2.2.2.1 hk
      refine R_tableAt (tgt := 479) 9 hk dL_law_33 (ir_l (by decide) (by decide)) (by decide) rfl (by decide) ?_
      exact WP_wk (wk_e (wk_e (wk_e (wk_e wk_n)))) h
    · have h := h.2.2.2.2.2.2.2.2.2.2.1 hk
      refine R_tableAt (tgt := 502) 10 hk dL_law_33 (ir_l (by decide) (by decide)) (by decide) rfl (by decide) ?_
      exact WP_wk (wk_e (wk_e (wk_e (wk_e wk_n)))) h
    · have h := h.2.2.2.2.2.2.2.2.2.2.2.1 hk
      refine R_tableAt (tgt := 525) 11 hk dL_law_33 (ir_l (by decide) (by decide)) (by decide) rfl (by decide) ?_
      exact WP_wk (wk_e (wk_e (wk_e (wk_e wk_n)))) h
    · have h := h.2.2.2.2.2.2.2.2.2.2.2.2.1 hk
      refine R_tableAt (tgt := 558) 12 hk dL_law_33 (ir_l (by decide) (by decide)) (by decide) rfl (by decide) ?_
      exact WP_wk (wk_e (wk_e (wk_e (wk_e wk_n)))) h
    · have h := h.2.2.2.2.2.2.2.2.2.2.2.2.2.1 hk
      refine R_tableAt (tgt := 581) 13 hk dL_law_33 (ir_l (by decide) (by decide)) (by decide) rfl (by decide) ?_
      exact WP_wk (wk_e (wk_e (wk_e (wk_e wk_n)))) h
    · have h := h.2.2.2.2.2.2.2.2.2.2.2.2.2.2.1 hk
      refine R_tableAt (tgt := 604) 14 hk dL_law_33 (ir_l (by decide) (by decide)) (by decide) rfl (by decide) ?_
      exact WP_wk (wk_e (wk_e (wk_e (wk_e wk_n)))) h
    · have h := h.2.2.2.2.2.2.2.2.2.2.2.2.2.2.2.1 hk
      refine R_tableAt (tgt := 627) 15 hk dL_law_33 (ir_l (by decide) (by decide)) (by decide) rfl (by decide) ?_
      exact WP_wk (wk_e (wk_e (wk_e (wk_e wk_n)))) h
    · have h := h.2.2.2.2.2.2.2.2.2.2.2.2.2.2.2.2.1 hk
      refine R_tableAt (tgt := 640) 16 hk dL_law_33 (ir_l (by decide) (by decide)) (by decide) rfl (by decide) ?_
      exact WP_wk (wk_e (wk_e (wk_e (wk_e wk_n)))) h
    · have h := h.2.2.2.2.2.2.2.2.2.2.2.2.2.2.2.2.2.1 hk
      refine R_tableAt (tgt := 663) 17 hk dL_law_33 (ir_l (by decide) (by decide)) (by decide) rfl (by decide) ?_
      exact WP_wk (wk_e (wk_e (wk_e (wk_e wk_n)))) h
    · have h := h.2.2.2.2.2.2.2.2.2.2.2.2.2.2.2.2.2.2.1 hk
      refine R_tableAt (tgt := 722) 18 hk dL_law_33 (ir_l (by decide) (by decide)) (by decide) rfl (by decide) ?_
      exact WP_wk (wk_e (wk_e (wk_e (wk_e wk_n)))) h
    · have h := h.2.2.2.2.2.2.2.2.2.2.2.2.2.2.2.2.2.2.2.1 hk
      refine R_tableAt (tgt := 745) 19 hk dL_law_33 (ir_l (by decide) (by decide)) (by decide) rfl (by decide) ?_
      exact WP_wk (wk_e (wk_e (wk_e (wk_e wk_n)))) h
    · have h := h.2.2.2.2.2.2.2.2.2.2.2.2.2.2.2.2.2.2.2.2.1 hk
      refine R_tableAt (tgt := 778) 20 hk dL_law_33 (ir_l (by decide) (by decide)) (by decide) rfl (by decide) ?_
      exact WP_wk (wk_e (wk_e (wk_e (wk_e wk_n)))) h
    · have h := h.2.2.2.2.2.2.2.2.2.2.2.2.2.2.2.2.2.2.2.2.2.1 hk
      refine R_tableAt (tgt := 812) 21 hk dL_law_33 (ir_l (by decide) (by decide)) (by decide) rfl (by decide) ?_
      exact WP_wk (wk_e (wk_e (wk_e (wk_e wk_n)))) h
    · have h := h.2.2.2.2.2.2.2.2.2.2.2.2.2.2.2.2.2.2.2.2.2.2.1 hk
      refine R_tableAt (tgt := 836) 22 hk dL_law_33 (ir_l (by decide) (by decide)) (by decide) rfl (by decide) ?_
      exact WP_wk (wk_e (wk_e (wk_e (wk_e wk_n)))) h
    · have h := h.2.2.2.2.2.2.2.2.2.2.2.2.2.2.2.2.2.2.2.2.2.2.2.1 hk
      refine R_tableAt (tgt := 869) 23 hk dL_law_33 (ir_l (by decide) (by decide)) (by decide) rfl (by decide) ?_
      exact WP_wk (wk_e (wk_e (wk_e (wk_e wk_n)))) h
    · have h := h.2.2.2.2.2.2.2.2.2.2.2.2.2.2.2.2.2.2.2.2.2.2.2.2.1 hk
      refine R_tableAt (tgt := 892) 24 hk dL_law_33 (ir_l (by decide) (by decide)) (by decide) rfl (by decide) ?_
      exact WP_wk (wk_e (wk_e (wk_e (wk_e wk_n)))) h
    · have h := h.2.2.2.2.2.2.2.2.2.2.2.2.2.2.2.2.2.2.2.2.2.2.2.2.2.1 hk
      refine R_tableAt (tgt := 925) 25 hk dL_law_33 (ir_l (by decide) (by decide)) (by decide) rfl (by decide) ?_
      exact WP_wk (wk_e (wk_e (wk_e (wk_e wk_n)))) h
    · have h := h.2.2.2.2.2.2.2.2.2.2.2.2.2.2.2.2.2.2.2.2.2.2.2.2.2.2.1 hk
      refine R_tableAt (tgt := 938) 26 hk dL_law_33 (ir_l (by decide) (by decide)) (by decide) rfl (by decide) ?_
      exact WP_wk (wk_e (wk_e (wk_e (wk_e wk_n)))) h
    · have h := h.2.2.2.2.2.2.2.2.2.2.2.2.2.2.2.2.2.2.2.2.2.2.2.2.2.2.2.1 hk
      refine R_tableAt (tgt := 971) 27 hk dL_law_33 (ir_l (by decide) (by decide)) (by decide) rfl (by decide) ?_
      exact WP_wk (wk_e (wk_e (wk_e (wk_e wk_n)))) h
    · have h := h.2.2.2.2.2.2.2.2.2.2.2.2.2.2.2.2.2.2.2.2.2.2.2.2.2.2.2.2.1 hk
      refine R_tableAt (tgt := 984) 28 hk dL_law_33 (ir_l (by decide) (by decide)) (by decide) rfl (by decide) ?_
      exact WP_wk (wk_e (wk_e (wk_e (wk_e wk_n)))) h
    · have h := h.2.2.2.2.2.2.2.2.2.2.2.2.2.2.2.2.2.2.2.2.2.2.2.2.2.2.2.2.2.1 hk
      refine R_tableAt (tgt := 997) 29 hk dL_law_33 (ir_l (by decide) (by decide)) (by decide) rfl (by decide) ?_
      exact WP_wk (wk_e (wk_e (wk_e (wk_e wk_n)))) h
    · have h := h.2.2.2.2.2.2.2.2.2.2.2.2.2.2.2.2.2.2.2.2.2.2.2.2.2.2.2.2.2.2.1 hk
      refine R_tableAt (tgt := 1040) 30 hk dL_law_33 (ir_l (by decide) (by decide)) (by decide) rfl (by decide) ?_
      exact WP_wk (wk_e (wk_e (wk_e (wk_e wk_n)))) h
    · have h := h.2.2.2.2.2.2.2.2.2.2.2.2.2.2.2.2.2.2.2.2.2.2.2.2.2.2.2.2.2.2.2.1 hk
      refine R_tableAt (tgt := 1063) 31 hk dL_law_33 (ir_l (by decide) (by decide)) (by decide) rfl (by decide) ?_
      exact WP_wk (wk_e (wk_e (wk_e (wk_e wk_n)))) h
    · have h := h.2.2.2.2.2.2.2.2.2.2.2.2.2.2.2.2.2.2.2.2.2.2.2.2.2.2.2.2.2.2.2.2.1 hk
      refine R_tableAt (tgt := 1096) 32 hk dL_law_33 (ir_l (by decide) (by decide)) (by decide) rfl (by decide) ?_
      exact WP_wk (wk_e (wk_e (wk_e (wk_e wk_n)))) h
    · have h := h.2.2.2.2.2.2.2.2.2.2.2.2.2.2.2.2.2.2.2.2.2.2.2.2.2.2.2.2.2.2.2.2.2.1 hk
      refine R_tableAt (tgt := 1119) 33 hk dL_law_33 (ir_l (by decide) (by decide)) (by decide) rfl (by decide) ?_
      exact WP_wk (wk_e (wk_e (wk_e (wk_e wk_n)))) h
    · have h := h.2.2.2.2.2.2.2.2.2.2.2.2.2.2.2.2.2.2.2.2.2.2.2.2.2.2.2.2.2.2.2.2.2.2.1 hk
      refine R_tableAt (tgt := 1162) 34 hk dL_law_33 (ir_l (by decide) (by decide)) (by decide) rfl (by decide) ?_
      exact WP_wk (wk_e (wk_e (wk_e (wk_e wk_n)))) h
    · have h := h.2.2.2.2.2.2.2.2.2.2.2.2.2.2.2.2.2.2.2.2.2.2.2.2.2.2.2.2.2.2.2.2.2.2.2.1 hk
      refine R_tableAt (tgt := 1235) 35 hk dL_law_33 (ir_l (by decide) (by decide)) (by decide) rfl (by decide) ?_
      exact WP_wk (wk_e (wk_e (wk_e (wk_e wk_n)))) h
    · have h := h.2.2.2.2.2.2.2.2.2.2.2.2.2.2.2.2.2.2.2.2.2.2.2.2.2.2.2.2.2.2.2.2.2.2.2.2.1 hk
      refine R_tableAt (tgt := 1269) 36 hk dL_law_33 (ir_l (by decide) (by decide)) (by decide) rfl (by decide) ?_
      exact WP_wk (wk_e (wk_e (wk_e (wk_e wk_n)))) h
    · have h := h.2.2.2.2.2.2.2.2.2.2.2.2.2.2.2.2.2.2.2.2.2.2.2.2.2.2.2.2.2.2.2.2.2.2.2.2.2 hk
      refine R_tableOut (tgt := 1332) dL_law_33 hs0 hk (by decide) ?_
      exact WP_wk (wk_e (wk_e (wk_e (wk_e wk_n)))) h
set_option maxRecDepth 100000 in
theorem s_L_law_196 {K : SK} {d kc ks : Nat} {c : ct} {Q : hp → av → Prop} (hkc : kc ≤ mL_law.2.2.2.2.1) (hks : ks ≤ mL_law.2.2.2.2.2) (a3 : Int) (h : ((0 ≤ (a3 + 1) ∧ (a3 + 1) < (K.2.1 : Int))) ∧ ((0 ≤ (a3 + 2) ∧ (a3 + 2) < (K.2.1 : Int))) ∧ CI K d mX8_guest [(2, 0), (0, (roC K 0 (Int.toNat (a3 + 1)))), (0, (roC K 0 (Int.toNat (a3 + 2))))] c (fun c3 r4 => ((0 ≤ (a3 + 1) ∧ (a3 + 1) < (K.2.1 : Int))) ∧ ((0 ≤ (a3 + 2) ∧ (a3 + 2) < (K.2.1 : Int))) ∧ CI K d mX9_guest [(2, 108), (0, (roC K 0 (Int.toNat (a3 + 1)))), (0, (roC K 0 (Int.toNat (a3 + 2))))] c3 (fun c7 r8 => (r4 = r8 → WP K (d + 1) mL_law kc ks 1332 [(3, ((0 : Nat) : Int)), (2, 0), (2, 108), (0, a3)] [] (wG c7) Q) ∧ (¬ (r4 = r8) → (ir r4 ∧ ir r8) ∧ Q (wG c7) (0, 0))))) : WP K (d + 1) mL_law kc ks 196 [(3, ((0 : Nat) : Int)), (2, 0), (2, 108), (0, a3)] [] (wG c) Q := by
  refine R_aload_n (pc' := 197) dL_law_196 rfl i0.1 rfl ?_
  refine R_aload_n3 (pc' := 198) dL_law_197 rfl rfl ?_
  refine R_iload_n (pc' := 199) dL_law_198 rfl rfl ?_
  refine R_iconst (pc' := 200) dL_law_199 rfl ?_
  refine R_iadd (pc' := 201) dL_law_200 rfl ?_
  have hs1 := h.1
  have h := h.2
  refine Q_roload (i := 0) (N := (K.2.1 : Int)) (pc' := 202) rfl dL_law_201 (by decide) hs1 rfl ?_
  refine R_aload_n3 (pc' := 203) dL_law_202 rfl rfl ?_
  refine R_iload_n (pc' := 204) dL_law_203 rfl rfl ?_
  refine R_iconst (pc' := 205) dL_law_204 rfl ?_
  refine R_iadd (pc' := 206) dL_law_205 rfl ?_
  have hs2 := h.1
  have h := h.2
  refine Q_roload (i := 0) (N := (K.2.1 : Int)) (pc' := 207) rfl dL_law_206 (by decide) hs2 rfl ?_
  refine Q_callVI (vs := [(0, (roC K 0 (Int.toNat (a3 + 1)))), (0, (roC K 0 (Int.toNat (a3 + 2))))]) (st := []) (pc' := 210) dL_law_207 l_RL_13 i0 (by decide) rfl rfl (Nat.le_of_ble_eq_true rfl) rfl hkc hks rfl ?_
  refine CI.mono h (fun c3 r4 h => ?_)
  refine R_aload_n (pc' := 211) dL_law_210 rfl i108.1 rfl ?_
  refine R_aload_n3 (pc' := 212) dL_law_211 rfl rfl ?_
  refine R_iload_n (pc' := 213) dL_law_212 rfl rfl ?_
  refine R_iconst (pc' := 214) dL_law_213 rfl ?_
  refine R_iadd (pc' := 215) dL_law_214 rfl ?_
  have hs5 := h.1
  have h := h.2
  refine Q_roload (i := 0) (N := (K.2.1 : Int)) (pc' := 216) rfl dL_law_215 (by decide) hs5 rfl ?_
  refine R_aload_n3 (pc' := 217) dL_law_216 rfl rfl ?_
  refine R_iload_n (pc' := 218) dL_law_217 rfl rfl ?_
  refine R_iconst (pc' := 219) dL_law_218 rfl ?_
  refine R_iadd (pc' := 220) dL_law_219 rfl ?_
  have hs6 := h.1
  have h := h.2
  refine Q_roload (i := 0) (N := (K.2.1 : Int)) (pc' := 221) rfl dL_law_220 (by decide) hs6 rfl ?_
  refine Q_callVI (vs := [(0, (roC K 0 (Int.toNat (a3 + 1)))), (0, (roC K 0 (Int.toNat (a3 + 2))))]) (st := [(0, r4)]) (pc' := 224) dL_law_221 l_RL_17 i108 (by decide) rfl rfl (Nat.le_of_ble_eq_true rfl) rfl hkc hks rfl ?_
  refine CI.mono h (fun c7 r8 h => ?_)
  by_cases hc9 : r4 = r8
  · have h := h.1 hc9
    refine R_eqS_ic (tgt := 1332) (pc' := 227) dL_law_224 (by decide) hc9 rfl ?_
    exact WP_wk (wk_e (wk_e (wk_e (wk_e wk_n)))) h
  · have h := h.2 hc9
    refine R_eqD_ic (tgt := 1332) (pc' := 227) dL_law_224 (by decide) hc9 h.1 rfl ?_
    have h := h.2
    refine R_iconst (pc' := 228) dL_law_227 rfl ?_
    exact R_zret dL_law_228 rfl (nar_bool (Or.inl rfl)).1 hkc hks h
set_option maxRecDepth 100000 in
theorem s_L_law_229 {K : SK} {d kc ks : Nat} {c : ct} {Q : hp → av → Prop} (hkc : kc ≤ mL_law.2.2.2.2.1) (hks : ks ≤ mL_law.2.2.2.2.2) (a3 : Int) (h : ((0 ≤ (a3 + 1) ∧ (a3 + 1) < (K.2.1 : Int))) ∧ ((0 ≤ (a3 + 2) ∧ (a3 + 2) < (K.2.1 : Int))) ∧ CI K d mX8_of [(2, 0), (0, (roC K 0 (Int.toNat (a3 + 1)))), (0, (roC K 0 (Int.toNat (a3 + 2))))] c (fun c3 r4 => ((0 ≤ (a3 + 1) ∧ (a3 + 1) < (K.2.1 : Int))) ∧ ((0 ≤ (a3 + 2) ∧ (a3 + 2) < (K.2.1 : Int))) ∧ CI K d mX9_of [(2, 108), (0, (roC K 0 (Int.toNat (a3 + 1)))), (0, (roC K 0 (Int.toNat (a3 + 2))))] c3 (fun c7 r8 => (r4 = r8 → WP K (d + 1) mL_law kc ks 1332 [(3, ((0 : Nat) : Int)), (2, 0), (2, 108), (0, a3)] [] (wG c7) Q) ∧ (¬ (r4 = r8) → (ir r4 ∧ ir r8) ∧ Q (wG c7) (0, 0))))) : WP K (d + 1) mL_law kc ks 229 [(3, ((0 : Nat) : Int)), (2, 0), (2, 108), (0, a3)] [] (wG c) Q := by
  refine R_aload_n (pc' := 230) dL_law_229 rfl i0.1 rfl ?_
  refine R_aload_n3 (pc' := 231) dL_law_230 rfl rfl ?_
  refine R_iload_n (pc' := 232) dL_law_231 rfl rfl ?_
  refine R_iconst (pc' := 233) dL_law_232 rfl ?_
  refine R_iadd (pc' := 234) dL_law_233 rfl ?_
  have hs1 := h.1
  have h := h.2
  refine Q_roload (i := 0) (N := (K.2.1 : Int)) (pc' := 235) rfl dL_law_234 (by decide) hs1 rfl ?_
  refine R_aload_n3 (pc' := 236) dL_law_235 rfl rfl ?_
  refine R_iload_n (pc' := 237) dL_law_236 rfl rfl ?_
  refine R_iconst (pc' := 238) dL_law_237 rfl ?_
  refine R_iadd (pc' := 239) dL_law_238 rfl ?_
  have hs2 := h.1
  have h := h.2
  refine Q_roload (i := 0) (N := (K.2.1 : Int)) (pc' := 240) rfl dL_law_239 (by decide) hs2 rfl ?_
  refine Q_callVI (vs := [(0, (roC K 0 (Int.toNat (a3 + 1)))), (0, (roC K 0 (Int.toNat (a3 + 2))))]) (st := []) (pc' := 243) dL_law_240 l_RL_18 i0 (by decide) rfl rfl (Nat.le_of_ble_eq_true rfl) rfl hkc hks rfl ?_
  refine CI.mono h (fun c3 r4 h => ?_)
  refine R_aload_n (pc' := 244) dL_law_243 rfl i108.1 rfl ?_
  refine R_aload_n3 (pc' := 245) dL_law_244 rfl rfl ?_
  refine R_iload_n (pc' := 246) dL_law_245 rfl rfl ?_
  refine R_iconst (pc' := 247) dL_law_246 rfl ?_
  refine R_iadd (pc' := 248) dL_law_247 rfl ?_
  have hs5 := h.1
  have h := h.2
  refine Q_roload (i := 0) (N := (K.2.1 : Int)) (pc' := 249) rfl dL_law_248 (by decide) hs5 rfl ?_
  refine R_aload_n3 (pc' := 250) dL_law_249 rfl rfl ?_
  refine R_iload_n (pc' := 251) dL_law_250 rfl rfl ?_
  refine R_iconst (pc' := 252) dL_law_251 rfl ?_
  refine R_iadd (pc' := 253) dL_law_252 rfl ?_
  have hs6 := h.1
  have h := h.2
  refine Q_roload (i := 0) (N := (K.2.1 : Int)) (pc' := 254) rfl dL_law_253 (by decide) hs6 rfl ?_
  refine Q_callVI (vs := [(0, (roC K 0 (Int.toNat (a3 + 1)))), (0, (roC K 0 (Int.toNat (a3 + 2))))]) (st := [(0, r4)]) (pc' := 257) dL_law_254 l_RL_21 i108 (by decide) rfl rfl (Nat.le_of_ble_eq_true rfl) rfl hkc hks rfl ?_
  refine CI.mono h (fun c7 r8 h => ?_)
  by_cases hc9 : r4 = r8
  · have h := h.1 hc9
    refine R_eqS_ic (tgt := 1332) (pc' := 260) dL_law_257 (by decide) hc9 rfl ?_
    exact WP_wk (wk_e (wk_e (wk_e (wk_e wk_n)))) h
  · have h := h.2 hc9
    refine R_eqD_ic (tgt := 1332) (pc' := 260) dL_law_257 (by decide) hc9 h.1 rfl ?_
    have h := h.2
    refine R_iconst (pc' := 261) dL_law_260 rfl ?_
    exact R_zret dL_law_261 rfl (nar_bool (Or.inl rfl)).1 hkc hks h
set_option maxRecDepth 100000 in
theorem s_L_law_262 {K : SK} {d kc ks : Nat} {c : ct} {Q : hp → av → Prop} (hkc : kc ≤ mL_law.2.2.2.2.1) (hks : ks ≤ mL_law.2.2.2.2.2) (a3 : Int) (h : ((0 ≤ (a3 + 1) ∧ (a3 + 1) < (K.2.1 : Int))) ∧ ((0 ≤ (a3 + 2) ∧ (a3 + 2) < (K.2.1 : Int))) ∧ CI K d mX8_likes [(2, 0), (0, (roC K 0 (Int.toNat (a3 + 1)))), (0, (roC K 0 (Int.toNat (a3 + 2))))] c (fun c3 r4 => ((0 ≤ (a3 + 1) ∧ (a3 + 1) < (K.2.1 : Int))) ∧ ((0 ≤ (a3 + 2) ∧ (a3 + 2) < (K.2.1 : Int))) ∧ CI K d mX9_likes [(2, 108), (0, (roC K 0 (Int.toNat (a3 + 1)))), (0, (roC K 0 (Int.toNat (a3 + 2))))] c3 (fun c7 r8 => (r4 = r8 → WP K (d + 1) mL_law kc ks 1332 [(3, ((0 : Nat) : Int)), (2, 0), (2, 108), (0, a3)] [] (wG c7) Q) ∧ (¬ (r4 = r8) → (ir r4 ∧ ir r8) ∧ Q (wG c7) (0, 0))))) : WP K (d + 1) mL_law kc ks 262 [(3, ((0 : Nat) : Int)), (2, 0), (2, 108), (0, a3)] [] (wG c) Q := by
  refine R_aload_n (pc' := 263) dL_law_262 rfl i0.1 rfl ?_
  refine R_aload_n3 (pc' := 264) dL_law_263 rfl rfl ?_
  refine R_iload_n (pc' := 265) dL_law_264 rfl rfl ?_
  refine R_iconst (pc' := 266) dL_law_265 rfl ?_
  refine R_iadd (pc' := 267) dL_law_266 rfl ?_
  have hs1 := h.1
  have h := h.2
  refine Q_roload (i := 0) (N := (K.2.1 : Int)) (pc' := 268) rfl dL_law_267 (by decide) hs1 rfl ?_
  refine R_aload_n3 (pc' := 269) dL_law_268 rfl rfl ?_
  refine R_iload_n (pc' := 270) dL_law_269 rfl rfl ?_
  refine R_iconst (pc' := 271) dL_law_270 rfl ?_
  refine R_iadd (pc' := 272) dL_law_271 rfl ?_
  have hs2 := h.1
  have h := h.2
  refine Q_roload (i := 0) (N := (K.2.1 : Int)) (pc' := 273) rfl dL_law_272 (by decide) hs2 rfl ?_
  refine Q_callVI (vs := [(0, (roC K 0 (Int.toNat (a3 + 1)))), (0, (roC K 0 (Int.toNat (a3 + 2))))]) (st := []) (pc' := 276) dL_law_273 l_RL_22 i0 (by decide) rfl rfl (Nat.le_of_ble_eq_true rfl) rfl hkc hks rfl ?_
  refine CI.mono h (fun c3 r4 h => ?_)
  refine R_aload_n (pc' := 277) dL_law_276 rfl i108.1 rfl ?_
  refine R_aload_n3 (pc' := 278) dL_law_277 rfl rfl ?_
  refine R_iload_n (pc' := 279) dL_law_278 rfl rfl ?_
  refine R_iconst (pc' := 280) dL_law_279 rfl ?_
  refine R_iadd (pc' := 281) dL_law_280 rfl ?_
  have hs5 := h.1
  have h := h.2
  refine Q_roload (i := 0) (N := (K.2.1 : Int)) (pc' := 282) rfl dL_law_281 (by decide) hs5 rfl ?_
  refine R_aload_n3 (pc' := 283) dL_law_282 rfl rfl ?_
  refine R_iload_n (pc' := 284) dL_law_283 rfl rfl ?_
  refine R_iconst (pc' := 285) dL_law_284 rfl ?_
  refine R_iadd (pc' := 286) dL_law_285 rfl ?_
  have hs6 := h.1
  have h := h.2
  refine Q_roload (i := 0) (N := (K.2.1 : Int)) (pc' := 287) rfl dL_law_286 (by decide) hs6 rfl ?_
  refine Q_callVI (vs := [(0, (roC K 0 (Int.toNat (a3 + 1)))), (0, (roC K 0 (Int.toNat (a3 + 2))))]) (st := [(0, r4)]) (pc' := 290) dL_law_287 l_RL_25 i108 (by decide) rfl rfl (Nat.le_of_ble_eq_true rfl) rfl hkc hks rfl ?_
  refine CI.mono h (fun c7 r8 h => ?_)
  by_cases hc9 : r4 = r8
  · have h := h.1 hc9
    refine R_eqS_ic (tgt := 1332) (pc' := 293) dL_law_290 (by decide) hc9 rfl ?_
    exact WP_wk (wk_e (wk_e (wk_e (wk_e wk_n)))) h
  · have h := h.2 hc9
    refine R_eqD_ic (tgt := 1332) (pc' := 293) dL_law_290 (by decide) hc9 h.1 rfl ?_
    have h := h.2
    refine R_iconst (pc' := 294) dL_law_293 rfl ?_
    exact R_zret dL_law_294 rfl (nar_bool (Or.inl rfl)).1 hkc hks h
set_option maxRecDepth 100000 in
theorem s_L_law_295 {K : SK} {d kc ks : Nat} {c : ct} {Q : hp → av → Prop} (hkc : kc ≤ mL_law.2.2.2.2.1) (hks : ks ≤ mL_law.2.2.2.2.2) (a3 : Int) (h : ((0 ≤ (a3 + 1) ∧ (a3 + 1) < (K.2.1 : Int))) ∧ ((0 ≤ (a3 + 2) ∧ (a3 + 2) < (K.2.1 : Int))) ∧ CI K d mX8_sit [(2, 0), (0, (roC K 0 (Int.toNat (a3 + 1)))), (0, (roC K 0 (Int.toNat (a3 + 2))))] c (fun c3 r4 => ((0 ≤ (a3 + 1) ∧ (a3 + 1) < (K.2.1 : Int))) ∧ ((0 ≤ (a3 + 2) ∧ (a3 + 2) < (K.2.1 : Int))) ∧ CI K d mX9_sit [(2, 108), (0, (roC K 0 (Int.toNat (a3 + 1)))), (0, (roC K 0 (Int.toNat (a3 + 2))))] c3 (fun c7 r8 => (r4 = r8 → WP K (d + 1) mL_law kc ks 1332 [(3, ((0 : Nat) : Int)), (2, 0), (2, 108), (0, a3)] [] (wG c7) Q) ∧ (¬ (r4 = r8) → (ir r4 ∧ ir r8) ∧ Q (wG c7) (0, 0))))) : WP K (d + 1) mL_law kc ks 295 [(3, ((0 : Nat) : Int)), (2, 0), (2, 108), (0, a3)] [] (wG c) Q := by
  refine R_aload_n (pc' := 296) dL_law_295 rfl i0.1 rfl ?_
  refine R_aload_n3 (pc' := 297) dL_law_296 rfl rfl ?_
  refine R_iload_n (pc' := 298) dL_law_297 rfl rfl ?_
  refine R_iconst (pc' := 299) dL_law_298 rfl ?_
  refine R_iadd (pc' := 300) dL_law_299 rfl ?_
  have hs1 := h.1
  have h := h.2
  refine Q_roload (i := 0) (N := (K.2.1 : Int)) (pc' := 301) rfl dL_law_300 (by decide) hs1 rfl ?_
  refine R_aload_n3 (pc' := 302) dL_law_301 rfl rfl ?_
  refine R_iload_n (pc' := 303) dL_law_302 rfl rfl ?_
  refine R_iconst (pc' := 304) dL_law_303 rfl ?_
  refine R_iadd (pc' := 305) dL_law_304 rfl ?_
  have hs2 := h.1
  have h := h.2
  refine Q_roload (i := 0) (N := (K.2.1 : Int)) (pc' := 306) rfl dL_law_305 (by decide) hs2 rfl ?_
  refine Q_callVI (vs := [(0, (roC K 0 (Int.toNat (a3 + 1)))), (0, (roC K 0 (Int.toNat (a3 + 2))))]) (st := []) (pc' := 309) dL_law_306 l_RL_26 i0 (by decide) rfl rfl (Nat.le_of_ble_eq_true rfl) rfl hkc hks rfl ?_
  refine CI.mono h (fun c3 r4 h => ?_)
  refine R_aload_n (pc' := 310) dL_law_309 rfl i108.1 rfl ?_
  refine R_aload_n3 (pc' := 311) dL_law_310 rfl rfl ?_
  refine R_iload_n (pc' := 312) dL_law_311 rfl rfl ?_
  refine R_iconst (pc' := 313) dL_law_312 rfl ?_
  refine R_iadd (pc' := 314) dL_law_313 rfl ?_
  have hs5 := h.1
  have h := h.2
  refine Q_roload (i := 0) (N := (K.2.1 : Int)) (pc' := 315) rfl dL_law_314 (by decide) hs5 rfl ?_
  refine R_aload_n3 (pc' := 316) dL_law_315 rfl rfl ?_
  refine R_iload_n (pc' := 317) dL_law_316 rfl rfl ?_
  refine R_iconst (pc' := 318) dL_law_317 rfl ?_
  refine R_iadd (pc' := 319) dL_law_318 rfl ?_
  have hs6 := h.1
  have h := h.2
  refine Q_roload (i := 0) (N := (K.2.1 : Int)) (pc' := 320) rfl dL_law_319 (by decide) hs6 rfl ?_
  refine Q_callVI (vs := [(0, (roC K 0 (Int.toNat (a3 + 1)))), (0, (roC K 0 (Int.toNat (a3 + 2))))]) (st := [(0, r4)]) (pc' := 323) dL_law_320 l_RL_29 i108 (by decide) rfl rfl (Nat.le_of_ble_eq_true rfl) rfl hkc hks rfl ?_
  refine CI.mono h (fun c7 r8 h => ?_)
  by_cases hc9 : r4 = r8
  · have h := h.1 hc9
    refine R_eqS_ic (tgt := 1332) (pc' := 326) dL_law_323 (by decide) hc9 rfl ?_
    exact WP_wk (wk_e (wk_e (wk_e (wk_e wk_n)))) h
  · have h := h.2 hc9
    refine R_eqD_ic (tgt := 1332) (pc' := 326) dL_law_323 (by decide) hc9 h.1 rfl ?_
    have h := h.2
    refine R_iconst (pc' := 327) dL_law_326 rfl ?_
    exact R_zret dL_law_327 rfl (nar_bool (Or.inl rfl)).1 hkc hks h
set_option maxRecDepth 100000 in
theorem s_L_law_328 {K : SK} {d kc ks : Nat} {c : ct} {Q : hp → av → Prop} (hkc : kc ≤ mL_law.2.2.2.2.1) (hks : ks ≤ mL_law.2.2.2.2.2) (a3 : Int) (h : ((0 ≤ (a3 + 1) ∧ (a3 + 1) < (K.2.1 : Int))) ∧ ((0 ≤ (a3 + 2) ∧ (a3 + 2) < (K.2.1 : Int))) ∧ ((roC K 0 (Int.toNat (a3 + 2))) = 0 → CI K d mX8_leave [(2, 0), (0, (roC K 0 (Int.toNat (a3 + 1)))), (0, 0)] c (fun c4 r5 => ((0 ≤ (a3 + 1) ∧ (a3 + 1) < (K.2.1 : Int))) ∧ ((0 ≤ (a3 + 2) ∧ (a3 + 2) < (K.2.1 : Int))) ∧ ((roC K 0 (Int.toNat (a3 + 2))) = 0 → CI K d mX9_leave [(2, 108), (0, (roC K 0 (Int.toNat (a3 + 1)))), (0, 0)] c4 (fun c9 r10 => (r5 = r10 → WP K (d + 1) mL_law kc ks 1332 [(3, ((0 : Nat) : Int)), (2, 0), (2, 108), (0, a3)] [] (wG c9) Q) ∧ (¬ (r5 = r10) → (ir r5 ∧ ir r10) ∧ Q (wG c9) (0, 0)))) ∧ (¬ ((roC K 0 (Int.toNat (a3 + 2))) = 0) → ir (roC K 0 (Int.toNat (a3 + 2))) ∧ CI K d mX9_leave [(2, 108), (0, (roC K 0 (Int.toNat (a3 + 1)))), (0, 1)] c4 (fun c12 r13 => (r5 = r13 → WP K (d + 1) mL_law kc ks 1332 [(3, ((0 : Nat) : Int)), (2, 0), (2, 108), (0, a3)] [] (wG c12) Q) ∧ (¬ (r5 = r13) → (ir r5 ∧ ir r13) ∧ Q (wG c12) (0, 0)))))) ∧ (¬ ((roC K 0 (Int.toNat (a3 + 2))) = 0) → ir (roC K 0 (Int.toNat (a3 + 2))) ∧ CI K d mX8_leave [(2, 0), (0, (roC K 0 (Int.toNat (a3 + 1)))), (0, 1)] c (fun c15 r16 => ((0 ≤ (a3 + 1) ∧ (a3 + 1) < (K.2.1 : Int))) ∧ ((0 ≤ (a3 + 2) ∧ (a3 + 2) < (K.2.1 : Int))) ∧ ((roC K 0 (Int.toNat (a3 + 2))) = 0 → CI K d mX9_leave [(2, 108), (0, (roC K 0 (Int.toNat (a3 + 1)))), (0, 0)] c15 (fun c20 r21 => (r16 = r21 → WP K (d + 1) mL_law kc ks 1332 [(3, ((0 : Nat) : Int)), (2, 0), (2, 108), (0, a3)] [] (wG c20) Q) ∧ (¬ (r16 = r21) → (ir r16 ∧ ir r21) ∧ Q (wG c20) (0, 0)))) ∧ (¬ ((roC K 0 (Int.toNat (a3 + 2))) = 0) → ir (roC K 0 (Int.toNat (a3 + 2))) ∧ CI K d mX9_leave [(2, 108), (0, (roC K 0 (Int.toNat (a3 + 1)))), (0, 1)] c15 (fun c23 r24 => (r16 = r24 → WP K (d + 1) mL_law kc ks 1332 [(3, ((0 : Nat) : Int)), (2, 0), (2, 108), (0, a3)] [] (wG c23) Q) ∧ (¬ (r16 = r24) → (ir r16 ∧ ir r24) ∧ Q (wG c23) (0, 0))))))) : WP K (d + 1) mL_law kc ks 328 [(3, ((0 : Nat) : Int)), (2, 0), (2, 108), (0, a3)] [] (wG c) Q := by
  refine R_aload_n (pc' := 329) dL_law_328 rfl i0.1 rfl ?_
  refine R_aload_n3 (pc' := 330) dL_law_329 rfl rfl ?_
  refine R_iload_n (pc' := 331) dL_law_330 rfl rfl ?_
  refine R_iconst (pc' := 332) dL_law_331 rfl ?_
  refine R_iadd (pc' := 333) dL_law_332 rfl ?_
  have hs1 := h.1
  have h := h.2
  refine Q_roload (i := 0) (N := (K.2.1 : Int)) (pc' := 334) rfl dL_law_333 (by decide) hs1 rfl ?_
  refine R_aload_n3 (pc' := 335) dL_law_334 rfl rfl ?_
  refine R_iload_n (pc' := 336) dL_law_335 rfl rfl ?_
  refine R_iconst (pc' := 337) dL_law_336 rfl ?_
  refine R_iadd (pc' := 338) dL_law_337 rfl ?_
  have hs2 := h.1
  have h := h.2
  refine Q_roload (i := 0) (N := (K.2.1 : Int)) (pc' := 339) rfl dL_law_338 (by decide) hs2 rfl ?_
  by_cases hc3 : (roC K 0 (Int.toNat (a3 + 2))) = 0
  · have h := h.1 hc3
    refine R_eqS_if (tgt := 346) (pc' := 342) dL_law_339 (by decide) hc3 rfl ?_
    refine R_iconst (pc' := 347) dL_law_346 rfl ?_
    refine Q_callVI (vs := [(0, (roC K 0 (Int.toNat (a3 + 1)))), (0, 0)]) (st := []) (pc' := 350) dL_law_347 l_RL_30 i0 (by decide) rfl rfl (Nat.le_of_ble_eq_true rfl) rfl hkc hks rfl ?_
    refine CI.mono h (fun c4 r5 h => ?_)
    refine R_aload_n (pc' := 351) dL_law_350 rfl i108.1 rfl ?_
    refine R_aload_n3 (pc' := 352) dL_law_351 rfl rfl ?_
    refine R_iload_n (pc' := 353) dL_law_352 rfl rfl ?_
    refine R_iconst (pc' := 354) dL_law_353 rfl ?_
    refine R_iadd (pc' := 355) dL_law_354 rfl ?_
    have hs6 := h.1
    have h := h.2
    refine Q_roload (i := 0) (N := (K.2.1 : Int)) (pc' := 356) rfl dL_law_355 (by decide) hs6 rfl ?_
    refine R_aload_n3 (pc' := 357) dL_law_356 rfl rfl ?_
    refine R_iload_n (pc' := 358) dL_law_357 rfl rfl ?_
    refine R_iconst (pc' := 359) dL_law_358 rfl ?_
    refine R_iadd (pc' := 360) dL_law_359 rfl ?_
    have hs7 := h.1
    have h := h.2
    refine Q_roload (i := 0) (N := (K.2.1 : Int)) (pc' := 361) rfl dL_law_360 (by decide) hs7 rfl ?_
    by_cases hc8 : (roC K 0 (Int.toNat (a3 + 2))) = 0
    · have h := h.1 hc8
      refine R_eqS_if (tgt := 368) (pc' := 364) dL_law_361 (by decide) hc8 rfl ?_
      refine R_iconst (pc' := 369) dL_law_368 rfl ?_
      refine Q_callVI (vs := [(0, (roC K 0 (Int.toNat (a3 + 1)))), (0, 0)]) (st := [(0, r5)]) (pc' := 372) dL_law_369 l_RL_34 i108 (by decide) rfl rfl (Nat.le_of_ble_eq_true rfl) rfl hkc hks rfl ?_
      refine CI.mono h (fun c9 r10 h => ?_)
      by_cases hc11 : r5 = r10
      · have h := h.1 hc11
        refine R_eqS_ic (tgt := 1332) (pc' := 375) dL_law_372 (by decide) hc11 rfl ?_
        exact WP_wk (wk_e (wk_e (wk_e (wk_e wk_n)))) h
      · have h := h.2 hc11
        refine R_eqD_ic (tgt := 1332) (pc' := 375) dL_law_372 (by decide) hc11 h.1 rfl ?_
        have h := h.2
        refine R_iconst (pc' := 376) dL_law_375 rfl ?_
        exact R_zret dL_law_376 rfl (nar_bool (Or.inl rfl)).1 hkc hks h
    · have h := h.2 hc8
      refine R_eqD_if (tgt := 368) (pc' := 364) dL_law_361 (by decide) hc8 h.1 rfl ?_
      have h := h.2
      refine R_iconst (pc' := 365) dL_law_364 rfl ?_
      refine R_goto (tgt := 369) dL_law_365 (by decide) ?_
      refine Q_callVI (vs := [(0, (roC K 0 (Int.toNat (a3 + 1)))), (0, 1)]) (st := [(0, r5)]) (pc' := 372) dL_law_369 l_RL_34 i108 (by decide) rfl rfl (Nat.le_of_ble_eq_true rfl) rfl hkc hks rfl ?_
      refine CI.mono h (fun c12 r13 h => ?_)
      by_cases hc14 : r5 = r13
      · have h := h.1 hc14
        refine R_eqS_ic (tgt := 1332) (pc' := 375) dL_law_372 (by decide) hc14 rfl ?_
        exact WP_wk (wk_e (wk_e (wk_e (wk_e wk_n)))) h
      · have h := h.2 hc14
        refine R_eqD_ic (tgt := 1332) (pc' := 375) dL_law_372 (by decide) hc14 h.1 rfl ?_
        have h := h.2
        refine R_iconst (pc' := 376) dL_law_375 rfl ?_
        exact R_zret dL_law_376 rfl (nar_bool (Or.inl rfl)).1 hkc hks h
  · have h := h.2 hc3
    refine R_eqD_if (tgt := 346) (pc' := 342) dL_law_339 (by decide) hc3 h.1 rfl ?_
    have h := h.2
    refine R_iconst (pc' := 343) dL_law_342 rfl ?_
    refine R_goto (tgt := 347) dL_law_343 (by decide) ?_
    refine Q_callVI (vs := [(0, (roC K 0 (Int.toNat (a3 + 1)))), (0, 1)]) (st := []) (pc' := 350) dL_law_347 l_RL_30 i0 (by decide) rfl rfl (Nat.le_of_ble_eq_true rfl) rfl hkc hks rfl ?_
    refine CI.mono h (fun c15 r16 h => ?_)
    refine R_aload_n (pc' := 351) dL_law_350 rfl i108.1 rfl ?_
    refine R_aload_n3 (pc' := 352) dL_law_351 rfl rfl ?_
    refine R_iload_n (pc' := 353) dL_law_352 rfl rfl ?_
    refine R_iconst (pc' := 354) dL_law_353 rfl ?_
    refine R_iadd (pc' := 355) dL_law_354 rfl ?_
    have hs17 := h.1
    have h := h.2
    refine Q_roload (i := 0) (N := (K.2.1 : Int)) (pc' := 356) rfl dL_law_355 (by decide) hs17 rfl ?_
    refine R_aload_n3 (pc' := 357) dL_law_356 rfl rfl ?_
    refine R_iload_n (pc' := 358) dL_law_357 rfl rfl ?_
    refine R_iconst (pc' := 359) dL_law_358 rfl ?_
    refine R_iadd (pc' := 360) dL_law_359 rfl ?_
    have hs18 := h.1
    have h := h.2
    refine Q_roload (i := 0) (N := (K.2.1 : Int)) (pc' := 361) rfl dL_law_360 (by decide) hs18 rfl ?_
    by_cases hc19 : (roC K 0 (Int.toNat (a3 + 2))) = 0
    · have h := h.1 hc19
      refine R_eqS_if (tgt := 368) (pc' := 364) dL_law_361 (by decide) hc19 rfl ?_
      refine R_iconst (pc' := 369) dL_law_368 rfl ?_
      refine Q_callVI (vs := [(0, (roC K 0 (Int.toNat (a3 + 1)))), (0, 0)]) (st := [(0, r16)]) (pc' := 372) dL_law_369 l_RL_34 i108 (by decide) rfl rfl (Nat.le_of_ble_eq_true rfl) rfl hkc hks rfl ?_
      refine CI.mono h (fun c20 r21 h => ?_)
      by_cases hc22 : r16 = r21
      · have h := h.1 hc22
        refine R_eqS_ic (tgt := 1332) (pc' := 375) dL_law_372 (by decide) hc22 rfl ?_
        exact WP_wk (wk_e (wk_e (wk_e (wk_e wk_n)))) h
      · have h := h.2 hc22
        refine R_eqD_ic (tgt := 1332) (pc' := 375) dL_law_372 (by decide) hc22 h.1 rfl ?_
        have h := h.2
        refine R_iconst (pc' := 376) dL_law_375 rfl ?_
        exact R_zret dL_law_376 rfl (nar_bool (Or.inl rfl)).1 hkc hks h
    · have h := h.2 hc19
      refine R_eqD_if (tgt := 368) (pc' := 364) dL_law_361 (by decide) hc19 h.1 rfl ?_
      have h := h.2
      refine R_iconst (pc' := 365) dL_law_364 rfl ?_
      refine R_goto (tgt := 369) dL_law_365 (by decide) ?_
      refine Q_callVI (vs := [(0, (roC K 0 (Int.toNat (a3 + 1)))), (0, 1)]) (st := [(0, r16)]) (pc' := 372) dL_law_369 l_RL_34 i108 (by decide) rfl rfl (Nat.le_of_ble_eq_true rfl) rfl hkc hks rfl ?_
      refine CI.mono h (fun c23 r24 h => ?_)
      by_cases hc25 : r16 = r24
      · have h := h.1 hc25
        refine R_eqS_ic (tgt := 1332) (pc' := 375) dL_law_372 (by decide) hc25 rfl ?_
        exact WP_wk (wk_e (wk_e (wk_e (wk_e wk_n)))) h
      · have h := h.2 hc25
        refine R_eqD_ic (tgt := 1332) (pc' := 375) dL_law_372 (by decide) hc25 h.1 rfl ?_
        have h := h.2
        refine R_iconst (pc' := 376) dL_law_375 rfl ?_
        exact R_zret dL_law_376 rfl (nar_bool (Or.inl rfl)).1 hkc hks h
set_option maxRecDepth 100000 in
theorem s_L_law_377 {K : SK} {d kc ks : Nat} {c : ct} {Q : hp → av → Prop} (hkc : kc ≤ mL_law.2.2.2.2.1) (hks : ks ≤ mL_law.2.2.2.2.2) (a3 : Int) (h : ((0 ≤ (a3 + 1) ∧ (a3 + 1) < (K.2.1 : Int))) ∧ CI K d mX8_pour [(2, 0), (0, (roC K 0 (Int.toNat (a3 + 1))))] c (fun c2 r3 => ((0 ≤ (a3 + 1) ∧ (a3 + 1) < (K.2.1 : Int))) ∧ CI K d mX9_pour [(2, 108), (0, (roC K 0 (Int.toNat (a3 + 1))))] c2 (fun c5 r6 => (r3 = r6 → WP K (d + 1) mL_law kc ks 1332 [(3, ((0 : Nat) : Int)), (2, 0), (2, 108), (0, a3)] [] (wG c5) Q) ∧ (¬ (r3 = r6) → (ir r3 ∧ ir r6) ∧ Q (wG c5) (0, 0))))) : WP K (d + 1) mL_law kc ks 377 [(3, ((0 : Nat) : Int)), (2, 0), (2, 108), (0, a3)] [] (wG c) Q := by
  refine R_aload_n (pc' := 378) dL_law_377 rfl i0.1 rfl ?_
  refine R_aload_n3 (pc' := 379) dL_law_378 rfl rfl ?_
  refine R_iload_n (pc' := 380) dL_law_379 rfl rfl ?_
  refine R_iconst (pc' := 381) dL_law_380 rfl ?_
  refine R_iadd (pc' := 382) dL_law_381 rfl ?_
  have hs1 := h.1
  have h := h.2
  refine Q_roload (i := 0) (N := (K.2.1 : Int)) (pc' := 383) rfl dL_law_382 (by decide) hs1 rfl ?_
  refine Q_callVI (vs := [(0, (roC K 0 (Int.toNat (a3 + 1))))]) (st := []) (pc' := 386) dL_law_383 l_RL_35 i0 (by decide) rfl rfl (Nat.le_of_ble_eq_true rfl) rfl hkc hks rfl ?_
  refine CI.mono h (fun c2 r3 h => ?_)
  refine R_aload_n (pc' := 387) dL_law_386 rfl i108.1 rfl ?_
  refine R_aload_n3 (pc' := 388) dL_law_387 rfl rfl ?_
  refine R_iload_n (pc' := 389) dL_law_388 rfl rfl ?_
  refine R_iconst (pc' := 390) dL_law_389 rfl ?_
  refine R_iadd (pc' := 391) dL_law_390 rfl ?_
  have hs4 := h.1
  have h := h.2
  refine Q_roload (i := 0) (N := (K.2.1 : Int)) (pc' := 392) rfl dL_law_391 (by decide) hs4 rfl ?_
  refine Q_callVI (vs := [(0, (roC K 0 (Int.toNat (a3 + 1))))]) (st := [(0, r3)]) (pc' := 395) dL_law_392 l_RL_39 i108 (by decide) rfl rfl (Nat.le_of_ble_eq_true rfl) rfl hkc hks rfl ?_
  refine CI.mono h (fun c5 r6 h => ?_)
  by_cases hc7 : r3 = r6
  · have h := h.1 hc7
    refine R_eqS_ic (tgt := 1332) (pc' := 398) dL_law_395 (by decide) hc7 rfl ?_
    exact WP_wk (wk_e (wk_e (wk_e (wk_e wk_n)))) h
  · have h := h.2 hc7
    refine R_eqD_ic (tgt := 1332) (pc' := 398) dL_law_395 (by decide) hc7 h.1 rfl ?_
    have h := h.2
    refine R_iconst (pc' := 399) dL_law_398 rfl ?_
    exact R_zret dL_law_399 rfl (nar_bool (Or.inl rfl)).1 hkc hks h
set_option maxRecDepth 100000 in
theorem s_L_law_400 {K : SK} {d kc ks : Nat} {c : ct} {Q : hp → av → Prop} (hkc : kc ≤ mL_law.2.2.2.2.1) (hks : ks ≤ mL_law.2.2.2.2.2) (a3 : Int) (h : ((0 ≤ (a3 + 1) ∧ (a3 + 1) < (K.2.1 : Int))) ∧ ((0 ≤ (a3 + 2) ∧ (a3 + 2) < (K.2.1 : Int))) ∧ ((0 ≤ (a3 + 3) ∧ (a3 + 3) < (K.2.1 : Int))) ∧ CI K d mX8_row [(2, 0), (0, (roC K 0 (Int.toNat (a3 + 1)))), (0, (roC K 0 (Int.toNat (a3 + 2)))), (0, (roC K 0 (Int.toNat (a3 + 3))))] c (fun c4 r5 => ((0 ≤ (a3 + 1) ∧ (a3 + 1) < (K.2.1 : Int))) ∧ ((0 ≤ (a3 + 2) ∧ (a3 + 2) < (K.2.1 : Int))) ∧ ((0 ≤ (a3 + 3) ∧ (a3 + 3) < (K.2.1 : Int))) ∧ CI K d mX9_row [(2, 108), (0, (roC K 0 (Int.toNat (a3 + 1)))), (0, (roC K 0 (Int.toNat (a3 + 2)))), (0, (roC K 0 (Int.toNat (a3 + 3))))] c4 (fun c9 r10 => (r5 = r10 → WP K (d + 1) mL_law kc ks 1332 [(3, ((0 : Nat) : Int)), (2, 0), (2, 108), (0, a3)] [] (wG c9) Q) ∧ (¬ (r5 = r10) → (ir r5 ∧ ir r10) ∧ Q (wG c9) (0, 0))))) : WP K (d + 1) mL_law kc ks 400 [(3, ((0 : Nat) : Int)), (2, 0), (2, 108), (0, a3)] [] (wG c) Q := by
  refine R_aload_n (pc' := 401) dL_law_400 rfl i0.1 rfl ?_
  refine R_aload_n3 (pc' := 402) dL_law_401 rfl rfl ?_
  refine R_iload_n (pc' := 403) dL_law_402 rfl rfl ?_
  refine R_iconst (pc' := 404) dL_law_403 rfl ?_
  refine R_iadd (pc' := 405) dL_law_404 rfl ?_
  have hs1 := h.1
  have h := h.2
  refine Q_roload (i := 0) (N := (K.2.1 : Int)) (pc' := 406) rfl dL_law_405 (by decide) hs1 rfl ?_
  refine R_aload_n3 (pc' := 407) dL_law_406 rfl rfl ?_
  refine R_iload_n (pc' := 408) dL_law_407 rfl rfl ?_
  refine R_iconst (pc' := 409) dL_law_408 rfl ?_
  refine R_iadd (pc' := 410) dL_law_409 rfl ?_
  have hs2 := h.1
  have h := h.2
  refine Q_roload (i := 0) (N := (K.2.1 : Int)) (pc' := 411) rfl dL_law_410 (by decide) hs2 rfl ?_
  refine R_aload_n3 (pc' := 412) dL_law_411 rfl rfl ?_
  refine R_iload_n (pc' := 413) dL_law_412 rfl rfl ?_
  refine R_iconst (pc' := 414) dL_law_413 rfl ?_
  refine R_iadd (pc' := 415) dL_law_414 rfl ?_
  have hs3 := h.1
  have h := h.2
  refine Q_roload (i := 0) (N := (K.2.1 : Int)) (pc' := 416) rfl dL_law_415 (by decide) hs3 rfl ?_
  refine Q_callVI (vs := [(0, (roC K 0 (Int.toNat (a3 + 1)))), (0, (roC K 0 (Int.toNat (a3 + 2)))), (0, (roC K 0 (Int.toNat (a3 + 3))))]) (st := []) (pc' := 419) dL_law_416 l_RL_40 i0 (by decide) rfl rfl (Nat.le_of_ble_eq_true rfl) rfl hkc hks rfl ?_
  refine CI.mono h (fun c4 r5 h => ?_)
  refine R_aload_n (pc' := 420) dL_law_419 rfl i108.1 rfl ?_
  refine R_aload_n3 (pc' := 421) dL_law_420 rfl rfl ?_
  refine R_iload_n (pc' := 422) dL_law_421 rfl rfl ?_
  refine R_iconst (pc' := 423) dL_law_422 rfl ?_
  refine R_iadd (pc' := 424) dL_law_423 rfl ?_
  have hs6 := h.1
  have h := h.2
  refine Q_roload (i := 0) (N := (K.2.1 : Int)) (pc' := 425) rfl dL_law_424 (by decide) hs6 rfl ?_
  refine R_aload_n3 (pc' := 426) dL_law_425 rfl rfl ?_
  refine R_iload_n (pc' := 427) dL_law_426 rfl rfl ?_
  refine R_iconst (pc' := 428) dL_law_427 rfl ?_
  refine R_iadd (pc' := 429) dL_law_428 rfl ?_
  have hs7 := h.1
  have h := h.2
  refine Q_roload (i := 0) (N := (K.2.1 : Int)) (pc' := 430) rfl dL_law_429 (by decide) hs7 rfl ?_
  refine R_aload_n3 (pc' := 431) dL_law_430 rfl rfl ?_
  refine R_iload_n (pc' := 432) dL_law_431 rfl rfl ?_
  refine R_iconst (pc' := 433) dL_law_432 rfl ?_
  refine R_iadd (pc' := 434) dL_law_433 rfl ?_
  have hs8 := h.1
  have h := h.2
  refine Q_roload (i := 0) (N := (K.2.1 : Int)) (pc' := 435) rfl dL_law_434 (by decide) hs8 rfl ?_
  refine Q_callVI (vs := [(0, (roC K 0 (Int.toNat (a3 + 1)))), (0, (roC K 0 (Int.toNat (a3 + 2)))), (0, (roC K 0 (Int.toNat (a3 + 3))))]) (st := [(0, r5)]) (pc' := 438) dL_law_435 l_RL_44 i108 (by decide) rfl rfl (Nat.le_of_ble_eq_true rfl) rfl hkc hks rfl ?_
  refine CI.mono h (fun c9 r10 h => ?_)
  by_cases hc11 : r5 = r10
  · have h := h.1 hc11
    refine R_eqS_ic (tgt := 1332) (pc' := 441) dL_law_438 (by decide) hc11 rfl ?_
    exact WP_wk (wk_e (wk_e (wk_e (wk_e wk_n)))) h
  · have h := h.2 hc11
    refine R_eqD_ic (tgt := 1332) (pc' := 441) dL_law_438 (by decide) hc11 h.1 rfl ?_
    have h := h.2
    refine R_iconst (pc' := 442) dL_law_441 rfl ?_
    exact R_zret dL_law_442 rfl (nar_bool (Or.inl rfl)).1 hkc hks h
set_option maxRecDepth 100000 in
theorem s_L_law_443 {K : SK} {d kc ks : Nat} {c : ct} {Q : hp → av → Prop} (hkc : kc ≤ mL_law.2.2.2.2.1) (hks : ks ≤ mL_law.2.2.2.2.2) (a3 : Int) (h : ((0 ≤ (a3 + 1) ∧ (a3 + 1) < (K.2.1 : Int))) ∧ CI K d mX8_feed [(2, 0), (0, (roC K 0 (Int.toNat (a3 + 1))))] c (fun c2 r3 => ((0 ≤ (a3 + 1) ∧ (a3 + 1) < (K.2.1 : Int))) ∧ CI K d mX9_feed [(2, 108), (0, (roC K 0 (Int.toNat (a3 + 1))))] c2 (fun c5 r6 => (r3 = r6 → WP K (d + 1) mL_law kc ks 1332 [(3, ((0 : Nat) : Int)), (2, 0), (2, 108), (0, a3)] [] (wG c5) Q) ∧ (¬ (r3 = r6) → (ir r3 ∧ ir r6) ∧ Q (wG c5) (0, 0))))) : WP K (d + 1) mL_law kc ks 443 [(3, ((0 : Nat) : Int)), (2, 0), (2, 108), (0, a3)] [] (wG c) Q := by
  refine R_aload_n (pc' := 444) dL_law_443 rfl i0.1 rfl ?_
  refine R_aload_n3 (pc' := 445) dL_law_444 rfl rfl ?_
  refine R_iload_n (pc' := 446) dL_law_445 rfl rfl ?_
  refine R_iconst (pc' := 447) dL_law_446 rfl ?_
  refine R_iadd (pc' := 448) dL_law_447 rfl ?_
  have hs1 := h.1
  have h := h.2
  refine Q_roload (i := 0) (N := (K.2.1 : Int)) (pc' := 449) rfl dL_law_448 (by decide) hs1 rfl ?_
  refine Q_callVI (vs := [(0, (roC K 0 (Int.toNat (a3 + 1))))]) (st := []) (pc' := 452) dL_law_449 l_RL_45 i0 (by decide) rfl rfl (Nat.le_of_ble_eq_true rfl) rfl hkc hks rfl ?_
  refine CI.mono h (fun c2 r3 h => ?_)
  refine R_aload_n (pc' := 453) dL_law_452 rfl i108.1 rfl ?_
  refine R_aload_n3 (pc' := 454) dL_law_453 rfl rfl ?_
  refine R_iload_n (pc' := 455) dL_law_454 rfl rfl ?_
  refine R_iconst (pc' := 456) dL_law_455 rfl ?_
  refine R_iadd (pc' := 457) dL_law_456 rfl ?_
  have hs4 := h.1
  have h := h.2
  refine Q_roload (i := 0) (N := (K.2.1 : Int)) (pc' := 458) rfl dL_law_457 (by decide) hs4 rfl ?_
  refine Q_callVI (vs := [(0, (roC K 0 (Int.toNat (a3 + 1))))]) (st := [(0, r3)]) (pc' := 461) dL_law_458 l_RL_48 i108 (by decide) rfl rfl (Nat.le_of_ble_eq_true rfl) rfl hkc hks rfl ?_
  refine CI.mono h (fun c5 r6 h => ?_)
  by_cases hc7 : r3 = r6
  · have h := h.1 hc7
    refine R_eqS_ic (tgt := 1332) (pc' := 464) dL_law_461 (by decide) hc7 rfl ?_
    exact WP_wk (wk_e (wk_e (wk_e (wk_e wk_n)))) h
  · have h := h.2 hc7
    refine R_eqD_ic (tgt := 1332) (pc' := 464) dL_law_461 (by decide) hc7 h.1 rfl ?_
    have h := h.2
    refine R_iconst (pc' := 465) dL_law_464 rfl ?_
    exact R_zret dL_law_465 rfl (nar_bool (Or.inl rfl)).1 hkc hks h
set_option maxRecDepth 100000 in
theorem s_L_law_466 {K : SK} {d kc ks : Nat} {c : ct} {Q : hp → av → Prop} (hkc : kc ≤ mL_law.2.2.2.2.1) (hks : ks ≤ mL_law.2.2.2.2.2) (a3 : Int) (h : CI K d mX8_house [(2, 0)] c (fun c1 r2 => CI K d mX9_house [(2, 108)] c1 (fun c3 r4 => (r2 = r4 → WP K (d + 1) mL_law kc ks 1332 [(3, ((0 : Nat) : Int)), (2, 0), (2, 108), (0, a3)] [] (wG c3) Q) ∧ (¬ (r2 = r4) → (ir r2 ∧ ir r4) ∧ Q (wG c3) (0, 0))))) : WP K (d + 1) mL_law kc ks 466 [(3, ((0 : Nat) : Int)), (2, 0), (2, 108), (0, a3)] [] (wG c) Q := by
  refine R_aload_n (pc' := 467) dL_law_466 rfl i0.1 rfl ?_
  refine Q_callVI (vs := []) (st := []) (pc' := 470) dL_law_467 l_RL_49 i0 (by decide) rfl rfl (Nat.le_of_ble_eq_true rfl) rfl hkc hks rfl ?_
  refine CI.mono h (fun c1 r2 h => ?_)
  refine R_aload_n (pc' := 471) dL_law_470 rfl i108.1 rfl ?_
  refine Q_callVI (vs := []) (st := [(0, r2)]) (pc' := 474) dL_law_471 l_RL_53 i108 (by decide) rfl rfl (Nat.le_of_ble_eq_true rfl) rfl hkc hks rfl ?_
  refine CI.mono h (fun c3 r4 h => ?_)
  by_cases hc5 : r2 = r4
  · have h := h.1 hc5
    refine R_eqS_ic (tgt := 1332) (pc' := 477) dL_law_474 (by decide) hc5 rfl ?_
    exact WP_wk (wk_e (wk_e (wk_e (wk_e wk_n)))) h
  · have h := h.2 hc5
    refine R_eqD_ic (tgt := 1332) (pc' := 477) dL_law_474 (by decide) hc5 h.1 rfl ?_
    have h := h.2
    refine R_iconst (pc' := 478) dL_law_477 rfl ?_
    exact R_zret dL_law_478 rfl (nar_bool (Or.inl rfl)).1 hkc hks h
set_option maxRecDepth 100000 in
theorem s_L_law_479 {K : SK} {d kc ks : Nat} {c : ct} {Q : hp → av → Prop} (hkc : kc ≤ mL_law.2.2.2.2.1) (hks : ks ≤ mL_law.2.2.2.2.2) (a3 : Int) (h : ((0 ≤ (a3 + 1) ∧ (a3 + 1) < (K.2.1 : Int))) ∧ CI K d mX8_told [(2, 0), (0, (roC K 0 (Int.toNat (a3 + 1))))] c (fun c2 r3 => ((0 ≤ (a3 + 1) ∧ (a3 + 1) < (K.2.1 : Int))) ∧ CI K d mX9_told [(2, 108), (0, (roC K 0 (Int.toNat (a3 + 1))))] c2 (fun c5 r6 => (r3 = r6 → WP K (d + 1) mL_law kc ks 1332 [(3, ((0 : Nat) : Int)), (2, 0), (2, 108), (0, a3)] [] (wG c5) Q) ∧ (¬ (r3 = r6) → (ir r3 ∧ ir r6) ∧ Q (wG c5) (0, 0))))) : WP K (d + 1) mL_law kc ks 479 [(3, ((0 : Nat) : Int)), (2, 0), (2, 108), (0, a3)] [] (wG c) Q := by
  refine R_aload_n (pc' := 480) dL_law_479 rfl i0.1 rfl ?_
  refine R_aload_n3 (pc' := 481) dL_law_480 rfl rfl ?_
  refine R_iload_n (pc' := 482) dL_law_481 rfl rfl ?_
  refine R_iconst (pc' := 483) dL_law_482 rfl ?_
  refine R_iadd (pc' := 484) dL_law_483 rfl ?_
  have hs1 := h.1
  have h := h.2
  refine Q_roload (i := 0) (N := (K.2.1 : Int)) (pc' := 485) rfl dL_law_484 (by decide) hs1 rfl ?_
  refine Q_callVI (vs := [(0, (roC K 0 (Int.toNat (a3 + 1))))]) (st := []) (pc' := 488) dL_law_485 l_RL_54 i0 (by decide) rfl rfl (Nat.le_of_ble_eq_true rfl) rfl hkc hks rfl ?_
  refine CI.mono h (fun c2 r3 h => ?_)
  refine R_aload_n (pc' := 489) dL_law_488 rfl i108.1 rfl ?_
  refine R_aload_n3 (pc' := 490) dL_law_489 rfl rfl ?_
  refine R_iload_n (pc' := 491) dL_law_490 rfl rfl ?_
  refine R_iconst (pc' := 492) dL_law_491 rfl ?_
  refine R_iadd (pc' := 493) dL_law_492 rfl ?_
  have hs4 := h.1
  have h := h.2
  refine Q_roload (i := 0) (N := (K.2.1 : Int)) (pc' := 494) rfl dL_law_493 (by decide) hs4 rfl ?_
  refine Q_callVI (vs := [(0, (roC K 0 (Int.toNat (a3 + 1))))]) (st := [(0, r3)]) (pc' := 497) dL_law_494 l_RL_57 i108 (by decide) rfl rfl (Nat.le_of_ble_eq_true rfl) rfl hkc hks rfl ?_
  refine CI.mono h (fun c5 r6 h => ?_)
  by_cases hc7 : r3 = r6
  · have h := h.1 hc7
    refine R_eqS_ic (tgt := 1332) (pc' := 500) dL_law_497 (by decide) hc7 rfl ?_
    exact WP_wk (wk_e (wk_e (wk_e (wk_e wk_n)))) h
  · have h := h.2 hc7
    refine R_eqD_ic (tgt := 1332) (pc' := 500) dL_law_497 (by decide) hc7 h.1 rfl ?_
    have h := h.2
    refine R_iconst (pc' := 501) dL_law_500 rfl ?_
    exact R_zret dL_law_501 rfl (nar_bool (Or.inl rfl)).1 hkc hks h
set_option maxRecDepth 100000 in
theorem s_L_law_502 {K : SK} {d kc ks : Nat} {c : ct} {Q : hp → av → Prop} (hkc : kc ≤ mL_law.2.2.2.2.1) (hks : ks ≤ mL_law.2.2.2.2.2) (a3 : Int) (h : ((0 ≤ (a3 + 1) ∧ (a3 + 1) < (K.2.1 : Int))) ∧ CI K d mX8_pass [(2, 0), (0, (roC K 0 (Int.toNat (a3 + 1))))] c (fun c2 r3 => ((0 ≤ (a3 + 1) ∧ (a3 + 1) < (K.2.1 : Int))) ∧ CI K d mX9_pass [(2, 108), (0, (roC K 0 (Int.toNat (a3 + 1))))] c2 (fun c5 r6 => (r3 = r6 → WP K (d + 1) mL_law kc ks 1332 [(3, ((0 : Nat) : Int)), (2, 0), (2, 108), (0, a3)] [] (wG c5) Q) ∧ (¬ (r3 = r6) → (ir r3 ∧ ir r6) ∧ Q (wG c5) (0, 0))))) : WP K (d + 1) mL_law kc ks 502 [(3, ((0 : Nat) : Int)), (2, 0), (2, 108), (0, a3)] [] (wG c) Q := by
  refine R_aload_n (pc' := 503) dL_law_502 rfl i0.1 rfl ?_
  refine R_aload_n3 (pc' := 504) dL_law_503 rfl rfl ?_
  refine R_iload_n (pc' := 505) dL_law_504 rfl rfl ?_
  refine R_iconst (pc' := 506) dL_law_505 rfl ?_
  refine R_iadd (pc' := 507) dL_law_506 rfl ?_
  have hs1 := h.1
  have h := h.2
  refine Q_roload (i := 0) (N := (K.2.1 : Int)) (pc' := 508) rfl dL_law_507 (by decide) hs1 rfl ?_
  refine Q_callVI (vs := [(0, (roC K 0 (Int.toNat (a3 + 1))))]) (st := []) (pc' := 511) dL_law_508 l_RL_58 i0 (by decide) rfl rfl (Nat.le_of_ble_eq_true rfl) rfl hkc hks rfl ?_
  refine CI.mono h (fun c2 r3 h => ?_)
  refine R_aload_n (pc' := 512) dL_law_511 rfl i108.1 rfl ?_
  refine R_aload_n3 (pc' := 513) dL_law_512 rfl rfl ?_
  refine R_iload_n (pc' := 514) dL_law_513 rfl rfl ?_
  refine R_iconst (pc' := 515) dL_law_514 rfl ?_
  refine R_iadd (pc' := 516) dL_law_515 rfl ?_
  have hs4 := h.1
  have h := h.2
  refine Q_roload (i := 0) (N := (K.2.1 : Int)) (pc' := 517) rfl dL_law_516 (by decide) hs4 rfl ?_
  refine Q_callVI (vs := [(0, (roC K 0 (Int.toNat (a3 + 1))))]) (st := [(0, r3)]) (pc' := 520) dL_law_517 l_RL_61 i108 (by decide) rfl rfl (Nat.le_of_ble_eq_true rfl) rfl hkc hks rfl ?_
  refine CI.mono h (fun c5 r6 h => ?_)
  by_cases hc7 : r3 = r6
  · have h := h.1 hc7
    refine R_eqS_ic (tgt := 1332) (pc' := 523) dL_law_520 (by decide) hc7 rfl ?_
    exact WP_wk (wk_e (wk_e (wk_e (wk_e wk_n)))) h
  · have h := h.2 hc7
    refine R_eqD_ic (tgt := 1332) (pc' := 523) dL_law_520 (by decide) hc7 h.1 rfl ?_
    have h := h.2
    refine R_iconst (pc' := 524) dL_law_523 rfl ?_
    exact R_zret dL_law_524 rfl (nar_bool (Or.inl rfl)).1 hkc hks h
set_option maxRecDepth 100000 in
theorem s_L_law_525 {K : SK} {d kc ks : Nat} {c : ct} {Q : hp → av → Prop} (hkc : kc ≤ mL_law.2.2.2.2.1) (hks : ks ≤ mL_law.2.2.2.2.2) (a3 : Int) (h : ((0 ≤ (a3 + 1) ∧ (a3 + 1) < (K.2.1 : Int))) ∧ ((0 ≤ (a3 + 2) ∧ (a3 + 2) < (K.2.1 : Int))) ∧ CI K d mX8_on [(2, 0), (0, (roC K 0 (Int.toNat (a3 + 1)))), (0, (roC K 0 (Int.toNat (a3 + 2))))] c (fun c3 r4 => ((0 ≤ (a3 + 1) ∧ (a3 + 1) < (K.2.1 : Int))) ∧ ((0 ≤ (a3 + 2) ∧ (a3 + 2) < (K.2.1 : Int))) ∧ CI K d mX9_on [(2, 108), (0, (roC K 0 (Int.toNat (a3 + 1)))), (0, (roC K 0 (Int.toNat (a3 + 2))))] c3 (fun c7 r8 => (r4 = r8 → WP K (d + 1) mL_law kc ks 1332 [(3, ((0 : Nat) : Int)), (2, 0), (2, 108), (0, a3)] [] (wG c7) Q) ∧ (¬ (r4 = r8) → (ir r4 ∧ ir r8) ∧ Q (wG c7) (0, 0))))) : WP K (d + 1) mL_law kc ks 525 [(3, ((0 : Nat) : Int)), (2, 0), (2, 108), (0, a3)] [] (wG c) Q := by
  refine R_aload_n (pc' := 526) dL_law_525 rfl i0.1 rfl ?_
  refine R_aload_n3 (pc' := 527) dL_law_526 rfl rfl ?_
  refine R_iload_n (pc' := 528) dL_law_527 rfl rfl ?_
  refine R_iconst (pc' := 529) dL_law_528 rfl ?_
  refine R_iadd (pc' := 530) dL_law_529 rfl ?_
  have hs1 := h.1
  have h := h.2
  refine Q_roload (i := 0) (N := (K.2.1 : Int)) (pc' := 531) rfl dL_law_530 (by decide) hs1 rfl ?_
  refine R_aload_n3 (pc' := 532) dL_law_531 rfl rfl ?_
  refine R_iload_n (pc' := 533) dL_law_532 rfl rfl ?_
  refine R_iconst (pc' := 534) dL_law_533 rfl ?_
  refine R_iadd (pc' := 535) dL_law_534 rfl ?_
  have hs2 := h.1
  have h := h.2
  refine Q_roload (i := 0) (N := (K.2.1 : Int)) (pc' := 536) rfl dL_law_535 (by decide) hs2 rfl ?_
  refine Q_callVI (vs := [(0, (roC K 0 (Int.toNat (a3 + 1)))), (0, (roC K 0 (Int.toNat (a3 + 2))))]) (st := []) (pc' := 539) dL_law_536 l_RL_62 i0 (by decide) rfl rfl (Nat.le_of_ble_eq_true rfl) rfl hkc hks rfl ?_
  refine CI.mono h (fun c3 r4 h => ?_)
  refine R_aload_n (pc' := 540) dL_law_539 rfl i108.1 rfl ?_
  refine R_aload_n3 (pc' := 541) dL_law_540 rfl rfl ?_
  refine R_iload_n (pc' := 542) dL_law_541 rfl rfl ?_
  refine R_iconst (pc' := 543) dL_law_542 rfl ?_
  refine R_iadd (pc' := 544) dL_law_543 rfl ?_
  have hs5 := h.1
  have h := h.2
  refine Q_roload (i := 0) (N := (K.2.1 : Int)) (pc' := 545) rfl dL_law_544 (by decide) hs5 rfl ?_
  refine R_aload_n3 (pc' := 546) dL_law_545 rfl rfl ?_
  refine R_iload_n (pc' := 547) dL_law_546 rfl rfl ?_
  refine R_iconst (pc' := 548) dL_law_547 rfl ?_
  refine R_iadd (pc' := 549) dL_law_548 rfl ?_
  have hs6 := h.1
  have h := h.2
  refine Q_roload (i := 0) (N := (K.2.1 : Int)) (pc' := 550) rfl dL_law_549 (by decide) hs6 rfl ?_
  refine Q_callVI (vs := [(0, (roC K 0 (Int.toNat (a3 + 1)))), (0, (roC K 0 (Int.toNat (a3 + 2))))]) (st := [(0, r4)]) (pc' := 553) dL_law_550 l_RL_65 i108 (by decide) rfl rfl (Nat.le_of_ble_eq_true rfl) rfl hkc hks rfl ?_
  refine CI.mono h (fun c7 r8 h => ?_)
  by_cases hc9 : r4 = r8
  · have h := h.1 hc9
    refine R_eqS_ic (tgt := 1332) (pc' := 556) dL_law_553 (by decide) hc9 rfl ?_
    exact WP_wk (wk_e (wk_e (wk_e (wk_e wk_n)))) h
  · have h := h.2 hc9
    refine R_eqD_ic (tgt := 1332) (pc' := 556) dL_law_553 (by decide) hc9 h.1 rfl ?_
    have h := h.2
    refine R_iconst (pc' := 557) dL_law_556 rfl ?_
    exact R_zret dL_law_557 rfl (nar_bool (Or.inl rfl)).1 hkc hks h
set_option maxRecDepth 100000 in
theorem s_L_law_558 {K : SK} {d kc ks : Nat} {c : ct} {Q : hp → av → Prop} (hkc : kc ≤ mL_law.2.2.2.2.1) (hks : ks ≤ mL_law.2.2.2.2.2) (a3 : Int) (h : ((0 ≤ (a3 + 1) ∧ (a3 + 1) < (K.2.1 : Int))) ∧ CI K d mX8_soon [(2, 0), (0, (roC K 0 (Int.toNat (a3 + 1))))] c (fun c2 r3 => ((0 ≤ (a3 + 1) ∧ (a3 + 1) < (K.2.1 : Int))) ∧ CI K d mX9_soon [(2, 108), (0, (roC K 0 (Int.toNat (a3 + 1))))] c2 (fun c5 r6 => (r3 = r6 → WP K (d + 1) mL_law kc ks 1332 [(3, ((0 : Nat) : Int)), (2, 0), (2, 108), (0, a3)] [] (wG c5) Q) ∧ (¬ (r3 = r6) → (ir r3 ∧ ir r6) ∧ Q (wG c5) (0, 0))))) : WP K (d + 1) mL_law kc ks 558 [(3, ((0 : Nat) : Int)), (2, 0), (2, 108), (0, a3)] [] (wG c) Q := by
  refine R_aload_n (pc' := 559) dL_law_558 rfl i0.1 rfl ?_
  refine R_aload_n3 (pc' := 560) dL_law_559 rfl rfl ?_
  refine R_iload_n (pc' := 561) dL_law_560 rfl rfl ?_
  refine R_iconst (pc' := 562) dL_law_561 rfl ?_
  refine R_iadd (pc' := 563) dL_law_562 rfl ?_
  have hs1 := h.1
  have h := h.2
  refine Q_roload (i := 0) (N := (K.2.1 : Int)) (pc' := 564) rfl dL_law_563 (by decide) hs1 rfl ?_
  refine Q_callVI (vs := [(0, (roC K 0 (Int.toNat (a3 + 1))))]) (st := []) (pc' := 567) dL_law_564 l_RL_66 i0 (by decide) rfl rfl (Nat.le_of_ble_eq_true rfl) rfl hkc hks rfl ?_
  refine CI.mono h (fun c2 r3 h => ?_)
  refine R_aload_n (pc' := 568) dL_law_567 rfl i108.1 rfl ?_
  refine R_aload_n3 (pc' := 569) dL_law_568 rfl rfl ?_
  refine R_iload_n (pc' := 570) dL_law_569 rfl rfl ?_
  refine R_iconst (pc' := 571) dL_law_570 rfl ?_
  refine R_iadd (pc' := 572) dL_law_571 rfl ?_
  have hs4 := h.1
  have h := h.2
  refine Q_roload (i := 0) (N := (K.2.1 : Int)) (pc' := 573) rfl dL_law_572 (by decide) hs4 rfl ?_
  refine Q_callVI (vs := [(0, (roC K 0 (Int.toNat (a3 + 1))))]) (st := [(0, r3)]) (pc' := 576) dL_law_573 l_RL_69 i108 (by decide) rfl rfl (Nat.le_of_ble_eq_true rfl) rfl hkc hks rfl ?_
  refine CI.mono h (fun c5 r6 h => ?_)
  by_cases hc7 : r3 = r6
  · have h := h.1 hc7
    refine R_eqS_ic (tgt := 1332) (pc' := 579) dL_law_576 (by decide) hc7 rfl ?_
    exact WP_wk (wk_e (wk_e (wk_e (wk_e wk_n)))) h
  · have h := h.2 hc7
    refine R_eqD_ic (tgt := 1332) (pc' := 579) dL_law_576 (by decide) hc7 h.1 rfl ?_
    have h := h.2
    refine R_iconst (pc' := 580) dL_law_579 rfl ?_
    exact R_zret dL_law_580 rfl (nar_bool (Or.inl rfl)).1 hkc hks h
set_option maxRecDepth 100000 in
theorem s_L_law_581 {K : SK} {d kc ks : Nat} {c : ct} {Q : hp → av → Prop} (hkc : kc ≤ mL_law.2.2.2.2.1) (hks : ks ≤ mL_law.2.2.2.2.2) (a3 : Int) (h : ((0 ≤ (a3 + 1) ∧ (a3 + 1) < (K.2.1 : Int))) ∧ CI K d mX8_best [(2, 0), (0, (roC K 0 (Int.toNat (a3 + 1))))] c (fun c2 r3 => ((0 ≤ (a3 + 1) ∧ (a3 + 1) < (K.2.1 : Int))) ∧ CI K d mX9_best [(2, 108), (0, (roC K 0 (Int.toNat (a3 + 1))))] c2 (fun c5 r6 => (r3 = r6 → WP K (d + 1) mL_law kc ks 1332 [(3, ((0 : Nat) : Int)), (2, 0), (2, 108), (0, a3)] [] (wG c5) Q) ∧ (¬ (r3 = r6) → (ir r3 ∧ ir r6) ∧ Q (wG c5) (0, 0))))) : WP K (d + 1) mL_law kc ks 581 [(3, ((0 : Nat) : Int)), (2, 0), (2, 108), (0, a3)] [] (wG c) Q := by
  refine R_aload_n (pc' := 582) dL_law_581 rfl i0.1 rfl ?_
  refine R_aload_n3 (pc' := 583) dL_law_582 rfl rfl ?_
  refine R_iload_n (pc' := 584) dL_law_583 rfl rfl ?_
  refine R_iconst (pc' := 585) dL_law_584 rfl ?_
  refine R_iadd (pc' := 586) dL_law_585 rfl ?_
  have hs1 := h.1
  have h := h.2
  refine Q_roload (i := 0) (N := (K.2.1 : Int)) (pc' := 587) rfl dL_law_586 (by decide) hs1 rfl ?_
  refine Q_callVI (vs := [(0, (roC K 0 (Int.toNat (a3 + 1))))]) (st := []) (pc' := 590) dL_law_587 l_RL_70 i0 (by decide) rfl rfl (Nat.le_of_ble_eq_true rfl) rfl hkc hks rfl ?_
  refine CI.mono h (fun c2 r3 h => ?_)
  refine R_aload_n (pc' := 591) dL_law_590 rfl i108.1 rfl ?_
  refine R_aload_n3 (pc' := 592) dL_law_591 rfl rfl ?_
  refine R_iload_n (pc' := 593) dL_law_592 rfl rfl ?_
  refine R_iconst (pc' := 594) dL_law_593 rfl ?_
  refine R_iadd (pc' := 595) dL_law_594 rfl ?_
  have hs4 := h.1
  have h := h.2
  refine Q_roload (i := 0) (N := (K.2.1 : Int)) (pc' := 596) rfl dL_law_595 (by decide) hs4 rfl ?_
  refine Q_callVI (vs := [(0, (roC K 0 (Int.toNat (a3 + 1))))]) (st := [(0, r3)]) (pc' := 599) dL_law_596 l_RL_73 i108 (by decide) rfl rfl (Nat.le_of_ble_eq_true rfl) rfl hkc hks rfl ?_
  refine CI.mono h (fun c5 r6 h => ?_)
  by_cases hc7 : r3 = r6
  · have h := h.1 hc7
    refine R_eqS_ic (tgt := 1332) (pc' := 602) dL_law_599 (by decide) hc7 rfl ?_
    exact WP_wk (wk_e (wk_e (wk_e (wk_e wk_n)))) h
  · have h := h.2 hc7
    refine R_eqD_ic (tgt := 1332) (pc' := 602) dL_law_599 (by decide) hc7 h.1 rfl ?_
    have h := h.2
    refine R_iconst (pc' := 603) dL_law_602 rfl ?_
    exact R_zret dL_law_603 rfl (nar_bool (Or.inl rfl)).1 hkc hks h
set_option maxRecDepth 100000 in
theorem s_L_law_604 {K : SK} {d kc ks : Nat} {c : ct} {Q : hp → av → Prop} (hkc : kc ≤ mL_law.2.2.2.2.1) (hks : ks ≤ mL_law.2.2.2.2.2) (a3 : Int) (h : ((0 ≤ (a3 + 1) ∧ (a3 + 1) < (K.2.1 : Int))) ∧ CI K d mX8_peace [(2, 0), (0, (roC K 0 (Int.toNat (a3 + 1))))] c (fun c2 r3 => ((0 ≤ (a3 + 1) ∧ (a3 + 1) < (K.2.1 : Int))) ∧ CI K d mX9_peace [(2, 108), (0, (roC K 0 (Int.toNat (a3 + 1))))] c2 (fun c5 r6 => (r3 = r6 → WP K (d + 1) mL_law kc ks 1332 [(3, ((0 : Nat) : Int)), (2, 0), (2, 108), (0, a3)] [] (wG c5) Q) ∧ (¬ (r3 = r6) → (ir r3 ∧ ir r6) ∧ Q (wG c5) (0, 0))))) : WP K (d + 1) mL_law kc ks 604 [(3, ((0 : Nat) : Int)), (2, 0), (2, 108), (0, a3)] [] (wG c) Q := by
  refine R_aload_n (pc' := 605) dL_law_604 rfl i0.1 rfl ?_
  refine R_aload_n3 (pc' := 606) dL_law_605 rfl rfl ?_
  refine R_iload_n (pc' := 607) dL_law_606 rfl rfl ?_
  refine R_iconst (pc' := 608) dL_law_607 rfl ?_
  refine R_iadd (pc' := 609) dL_law_608 rfl ?_
  have hs1 := h.1
  have h := h.2
  refine Q_roload (i := 0) (N := (K.2.1 : Int)) (pc' := 610) rfl dL_law_609 (by decide) hs1 rfl ?_
  refine Q_callVI (vs := [(0, (roC K 0 (Int.toNat (a3 + 1))))]) (st := []) (pc' := 613) dL_law_610 l_RL_74 i0 (by decide) rfl rfl (Nat.le_of_ble_eq_true rfl) rfl hkc hks rfl ?_
  refine CI.mono h (fun c2 r3 h => ?_)
  refine R_aload_n (pc' := 614) dL_law_613 rfl i108.1 rfl ?_
  refine R_aload_n3 (pc' := 615) dL_law_614 rfl rfl ?_
  refine R_iload_n (pc' := 616) dL_law_615 rfl rfl ?_
  refine R_iconst (pc' := 617) dL_law_616 rfl ?_
  refine R_iadd (pc' := 618) dL_law_617 rfl ?_
  have hs4 := h.1
  have h := h.2
  refine Q_roload (i := 0) (N := (K.2.1 : Int)) (pc' := 619) rfl dL_law_618 (by decide) hs4 rfl ?_
  refine Q_callVI (vs := [(0, (roC K 0 (Int.toNat (a3 + 1))))]) (st := [(0, r3)]) (pc' := 622) dL_law_619 l_RL_77 i108 (by decide) rfl rfl (Nat.le_of_ble_eq_true rfl) rfl hkc hks rfl ?_
  refine CI.mono h (fun c5 r6 h => ?_)
  by_cases hc7 : r3 = r6
  · have h := h.1 hc7
    refine R_eqS_ic (tgt := 1332) (pc' := 625) dL_law_622 (by decide) hc7 rfl ?_
    exact WP_wk (wk_e (wk_e (wk_e (wk_e wk_n)))) h
  · have h := h.2 hc7
    refine R_eqD_ic (tgt := 1332) (pc' := 625) dL_law_622 (by decide) hc7 h.1 rfl ?_
    have h := h.2
    refine R_iconst (pc' := 626) dL_law_625 rfl ?_
    exact R_zret dL_law_626 rfl (nar_bool (Or.inl rfl)).1 hkc hks h
set_option maxRecDepth 100000 in
theorem s_L_law_627 {K : SK} {d kc ks : Nat} {c : ct} {Q : hp → av → Prop} (hkc : kc ≤ mL_law.2.2.2.2.1) (hks : ks ≤ mL_law.2.2.2.2.2) (a3 : Int) (h : CI K d mX8_change [(2, 0)] c (fun c1 r2 => CI K d mX9_change [(2, 108)] c1 (fun c3 r4 => (r2 = r4 → WP K (d + 1) mL_law kc ks 1332 [(3, ((0 : Nat) : Int)), (2, 0), (2, 108), (0, a3)] [] (wG c3) Q) ∧ (¬ (r2 = r4) → (ir r2 ∧ ir r4) ∧ Q (wG c3) (0, 0))))) : WP K (d + 1) mL_law kc ks 627 [(3, ((0 : Nat) : Int)), (2, 0), (2, 108), (0, a3)] [] (wG c) Q := by
  refine R_aload_n (pc' := 628) dL_law_627 rfl i0.1 rfl ?_
  refine Q_callVI (vs := []) (st := []) (pc' := 631) dL_law_628 l_RL_78 i0 (by decide) rfl rfl (Nat.le_of_ble_eq_true rfl) rfl hkc hks rfl ?_
  refine CI.mono h (fun c1 r2 h => ?_)
  refine R_aload_n (pc' := 632) dL_law_631 rfl i108.1 rfl ?_
  refine Q_callVI (vs := []) (st := [(0, r2)]) (pc' := 635) dL_law_632 l_RL_81 i108 (by decide) rfl rfl (Nat.le_of_ble_eq_true rfl) rfl hkc hks rfl ?_
  refine CI.mono h (fun c3 r4 h => ?_)
  by_cases hc5 : r2 = r4
  · have h := h.1 hc5
    refine R_eqS_ic (tgt := 1332) (pc' := 638) dL_law_635 (by decide) hc5 rfl ?_
    exact WP_wk (wk_e (wk_e (wk_e (wk_e wk_n)))) h
  · have h := h.2 hc5
    refine R_eqD_ic (tgt := 1332) (pc' := 638) dL_law_635 (by decide) hc5 h.1 rfl ?_
    have h := h.2
    refine R_iconst (pc' := 639) dL_law_638 rfl ?_
    exact R_zret dL_law_639 rfl (nar_bool (Or.inl rfl)).1 hkc hks h
set_option maxRecDepth 100000 in
theorem s_L_law_640 {K : SK} {d kc ks : Nat} {c : ct} {Q : hp → av → Prop} (hkc : kc ≤ mL_law.2.2.2.2.1) (hks : ks ≤ mL_law.2.2.2.2.2) (a3 : Int) (h : ((0 ≤ (a3 + 1) ∧ (a3 + 1) < (K.2.1 : Int))) ∧ CI K d mX8_seat [(2, 0), (0, (roC K 0 (Int.toNat (a3 + 1))))] c (fun c2 r3 => ((0 ≤ (a3 + 1) ∧ (a3 + 1) < (K.2.1 : Int))) ∧ CI K d mX9_seat [(2, 108), (0, (roC K 0 (Int.toNat (a3 + 1))))] c2 (fun c5 r6 => (r3 = r6 → WP K (d + 1) mL_law kc ks 1332 [(3, ((0 : Nat) : Int)), (2, 0), (2, 108), (0, a3)] [] (wG c5) Q) ∧ (¬ (r3 = r6) → (ir r3 ∧ ir r6) ∧ Q (wG c5) (0, 0))))) : WP K (d + 1) mL_law kc ks 640 [(3, ((0 : Nat) : Int)), (2, 0), (2, 108), (0, a3)] [] (wG c) Q := by
  refine R_aload_n (pc' := 641) dL_law_640 rfl i0.1 rfl ?_
  refine R_aload_n3 (pc' := 642) dL_law_641 rfl rfl ?_
  refine R_iload_n (pc' := 643) dL_law_642 rfl rfl ?_
  refine R_iconst (pc' := 644) dL_law_643 rfl ?_
  refine R_iadd (pc' := 645) dL_law_644 rfl ?_
  have hs1 := h.1
  have h := h.2
  refine Q_roload (i := 0) (N := (K.2.1 : Int)) (pc' := 646) rfl dL_law_645 (by decide) hs1 rfl ?_
  refine Q_callVI (vs := [(0, (roC K 0 (Int.toNat (a3 + 1))))]) (st := []) (pc' := 649) dL_law_646 l_RL_82 i0 (by decide) rfl rfl (Nat.le_of_ble_eq_true rfl) rfl hkc hks rfl ?_
  refine CI.mono h (fun c2 r3 h => ?_)
  refine R_aload_n (pc' := 650) dL_law_649 rfl i108.1 rfl ?_
  refine R_aload_n3 (pc' := 651) dL_law_650 rfl rfl ?_
  refine R_iload_n (pc' := 652) dL_law_651 rfl rfl ?_
  refine R_iconst (pc' := 653) dL_law_652 rfl ?_
  refine R_iadd (pc' := 654) dL_law_653 rfl ?_
  have hs4 := h.1
  have h := h.2
  refine Q_roload (i := 0) (N := (K.2.1 : Int)) (pc' := 655) rfl dL_law_654 (by decide) hs4 rfl ?_
  refine Q_callVI (vs := [(0, (roC K 0 (Int.toNat (a3 + 1))))]) (st := [(0, r3)]) (pc' := 658) dL_law_655 l_RL_85 i108 (by decide) rfl rfl (Nat.le_of_ble_eq_true rfl) rfl hkc hks rfl ?_
  refine CI.mono h (fun c5 r6 h => ?_)
  by_cases hc7 : r3 = r6
  · have h := h.1 hc7
    refine R_eqS_ic (tgt := 1332) (pc' := 661) dL_law_658 (by decide) hc7 rfl ?_
    exact WP_wk (wk_e (wk_e (wk_e (wk_e wk_n)))) h
  · have h := h.2 hc7
    refine R_eqD_ic (tgt := 1332) (pc' := 661) dL_law_658 (by decide) hc7 h.1 rfl ?_
    have h := h.2
    refine R_iconst (pc' := 662) dL_law_661 rfl ?_
    exact R_zret dL_law_662 rfl (nar_bool (Or.inl rfl)).1 hkc hks h
set_option maxRecDepth 100000 in
theorem s_L_law_663 {K : SK} {d kc ks : Nat} {c : ct} {Q : hp → av → Prop} (hkc : kc ≤ mL_law.2.2.2.2.1) (hks : ks ≤ mL_law.2.2.2.2.2) (a3 : Int) (h : ((0 ≤ (a3 + 1) ∧ (a3 + 1) < (K.2.1 : Int))) ∧ ((0 ≤ (a3 + 2) ∧ (a3 + 2) < (K.2.1 : Int))) ∧ ((roC K 0 (Int.toNat (a3 + 2))) = 0 → ((0 ≤ (a3 + 3) ∧ (a3 + 3) < (K.2.1 : Int))) ∧ CI K d mX8_see [(2, 0), (0, (roC K 0 (Int.toNat (a3 + 1)))), (0, 0), (0, (roC K 0 (Int.toNat (a3 + 3))))] c (fun c5 r6 => ((0 ≤ (a3 + 1) ∧ (a3 + 1) < (K.2.1 : Int))) ∧ ((0 ≤ (a3 + 2) ∧ (a3 + 2) < (K.2.1 : Int))) ∧ ((roC K 0 (Int.toNat (a3 + 2))) = 0 → ((0 ≤ (a3 + 3) ∧ (a3 + 3) < (K.2.1 : Int))) ∧ CI K d mX9_see [(2, 108), (0, (roC K 0 (Int.toNat (a3 + 1)))), (0, 0), (0, (roC K 0 (Int.toNat (a3 + 3))))] c5 (fun c11 r12 => (r6 = r12 → WP K (d + 1) mL_law kc ks 1332 [(3, ((0 : Nat) : Int)), (2, 0), (2, 108), (0, a3)] [] (wG c11) Q) ∧ (¬ (r6 = r12) → (ir r6 ∧ ir r12) ∧ Q (wG c11) (0, 0)))) ∧ (¬ ((roC K 0 (Int.toNat (a3 + 2))) = 0) → ir (roC K 0 (Int.toNat (a3 + 2))) ∧ ((0 ≤ (a3 + 3) ∧ (a3 + 3) < (K.2.1 : Int))) ∧ CI K d mX9_see [(2, 108), (0, (roC K 0 (Int.toNat (a3 + 1)))), (0, 1), (0, (roC K 0 (Int.toNat (a3 + 3))))] c5 (fun c15 r16 => (r6 = r16 → WP K (d + 1) mL_law kc ks 1332 [(3, ((0 : Nat) : Int)), (2, 0), (2, 108), (0, a3)] [] (wG c15) Q) ∧ (¬ (r6 = r16) → (ir r6 ∧ ir r16) ∧ Q (wG c15) (0, 0)))))) ∧ (¬ ((roC K 0 (Int.toNat (a3 + 2))) = 0) → ir (roC K 0 (Int.toNat (a3 + 2))) ∧ ((0 ≤ (a3 + 3) ∧ (a3 + 3) < (K.2.1 : Int))) ∧ CI K d mX8_see [(2, 0), (0, (roC K 0 (Int.toNat (a3 + 1)))), (0, 1), (0, (roC K 0 (Int.toNat (a3 + 3))))] c (fun c19 r20 => ((0 ≤ (a3 + 1) ∧ (a3 + 1) < (K.2.1 : Int))) ∧ ((0 ≤ (a3 + 2) ∧ (a3 + 2) < (K.2.1 : Int))) ∧ ((roC K 0 (Int.toNat (a3 + 2))) = 0 → ((0 ≤ (a3 + 3) ∧ (a3 + 3) < (K.2.1 : Int))) ∧ CI K d mX9_see [(2, 108), (0, (roC K 0 (Int.toNat (a3 + 1)))), (0, 0), (0, (roC K 0 (Int.toNat (a3 + 3))))] c19 (fun c25 r26 => (r20 = r26 → WP K (d + 1) mL_law kc ks 1332 [(3, ((0 : Nat) : Int)), (2, 0), (2, 108), (0, a3)] [] (wG c25) Q) ∧ (¬ (r20 = r26) → (ir r20 ∧ ir r26) ∧ Q (wG c25) (0, 0)))) ∧ (¬ ((roC K 0 (Int.toNat (a3 + 2))) = 0) → ir (roC K 0 (Int.toNat (a3 + 2))) ∧ ((0 ≤ (a3 + 3) ∧ (a3 + 3) < (K.2.1 : Int))) ∧ CI K d mX9_see [(2, 108), (0, (roC K 0 (Int.toNat (a3 + 1)))), (0, 1), (0, (roC K 0 (Int.toNat (a3 + 3))))] c19 (fun c29 r30 => (r20 = r30 → WP K (d + 1) mL_law kc ks 1332 [(3, ((0 : Nat) : Int)), (2, 0), (2, 108), (0, a3)] [] (wG c29) Q) ∧ (¬ (r20 = r30) → (ir r20 ∧ ir r30) ∧ Q (wG c29) (0, 0))))))) : WP K (d + 1) mL_law kc ks 663 [(3, ((0 : Nat) : Int)), (2, 0), (2, 108), (0, a3)] [] (wG c) Q := by
  refine R_aload_n (pc' := 664) dL_law_663 rfl i0.1 rfl ?_
  refine R_aload_n3 (pc' := 665) dL_law_664 rfl rfl ?_
  refine R_iload_n (pc' := 666) dL_law_665 rfl rfl ?_
  refine R_iconst (pc' := 667) dL_law_666 rfl ?_
  refine R_iadd (pc' := 668) dL_law_667 rfl ?_
  have hs1 := h.1
  have h := h.2
  refine Q_roload (i := 0) (N := (K.2.1 : Int)) (pc' := 669) rfl dL_law_668 (by decide) hs1 rfl ?_
  refine R_aload_n3 (pc' := 670) dL_law_669 rfl rfl ?_
  refine R_iload_n (pc' := 671) dL_law_670 rfl rfl ?_
  refine R_iconst (pc' := 672) dL_law_671 rfl ?_
  refine R_iadd (pc' := 673) dL_law_672 rfl ?_
  have hs2 := h.1
  have h := h.2
  refine Q_roload (i := 0) (N := (K.2.1 : Int)) (pc' := 674) rfl dL_law_673 (by decide) hs2 rfl ?_
  by_cases hc3 : (roC K 0 (Int.toNat (a3 + 2))) = 0
  · have h := h.1 hc3
    refine R_eqS_if (tgt := 681) (pc' := 677) dL_law_674 (by decide) hc3 rfl ?_
    refine R_iconst (pc' := 682) dL_law_681 rfl ?_
    refine R_aload_n3 (pc' := 683) dL_law_682 rfl rfl ?_
    refine R_iload_n (pc' := 684) dL_law_683 rfl rfl ?_
    refine R_iconst (pc' := 685) dL_law_684 rfl ?_
    refine R_iadd (pc' := 686) dL_law_685 rfl ?_
    have hs4 := h.1
    have h := h.2
    refine Q_roload (i := 0) (N := (K.2.1 : Int)) (pc' := 687) rfl dL_law_686 (by decide) hs4 rfl ?_
    refine Q_callVI (vs := [(0, (roC K 0 (Int.toNat (a3 + 1)))), (0, 0), (0, (roC K 0 (Int.toNat (a3 + 3))))]) (st := []) (pc' := 690) dL_law_687 l_RL_86 i0 (by decide) rfl rfl (Nat.le_of_ble_eq_true rfl) rfl hkc hks rfl ?_
    refine CI.mono h (fun c5 r6 h => ?_)
    refine R_aload_n (pc' := 691) dL_law_690 rfl i108.1 rfl ?_
    refine R_aload_n3 (pc' := 692) dL_law_691 rfl rfl ?_
    refine R_iload_n (pc' := 693) dL_law_692 rfl rfl ?_
    refine R_iconst (pc' := 694) dL_law_693 rfl ?_
    refine R_iadd (pc' := 695) dL_law_694 rfl ?_
    have hs7 := h.1
    have h := h.2
    refine Q_roload (i := 0) (N := (K.2.1 : Int)) (pc' := 696) rfl dL_law_695 (by decide) hs7 rfl ?_
    refine R_aload_n3 (pc' := 697) dL_law_696 rfl rfl ?_
    refine R_iload_n (pc' := 698) dL_law_697 rfl rfl ?_
    refine R_iconst (pc' := 699) dL_law_698 rfl ?_
    refine R_iadd (pc' := 700) dL_law_699 rfl ?_
    have hs8 := h.1
    have h := h.2
    refine Q_roload (i := 0) (N := (K.2.1 : Int)) (pc' := 701) rfl dL_law_700 (by decide) hs8 rfl ?_
    by_cases hc9 : (roC K 0 (Int.toNat (a3 + 2))) = 0
    · have h := h.1 hc9
      refine R_eqS_if (tgt := 708) (pc' := 704) dL_law_701 (by decide) hc9 rfl ?_
      refine R_iconst (pc' := 709) dL_law_708 rfl ?_
      refine R_aload_n3 (pc' := 710) dL_law_709 rfl rfl ?_
      refine R_iload_n (pc' := 711) dL_law_710 rfl rfl ?_
      refine R_iconst (pc' := 712) dL_law_711 rfl ?_
      refine R_iadd (pc' := 713) dL_law_712 rfl ?_
      have hs10 := h.1
      have h := h.2
      refine Q_roload (i := 0) (N := (K.2.1 : Int)) (pc' := 714) rfl dL_law_713 (by decide) hs10 rfl ?_
      refine Q_callVI (vs := [(0, (roC K 0 (Int.toNat (a3 + 1)))), (0, 0), (0, (roC K 0 (Int.toNat (a3 + 3))))]) (st := [(0, r6)]) (pc' := 717) dL_law_714 l_RL_90 i108 (by decide) rfl rfl (Nat.le_of_ble_eq_true rfl) rfl hkc hks rfl ?_
      refine CI.mono h (fun c11 r12 h => ?_)
      by_cases hc13 : r6 = r12
      · have h := h.1 hc13
        refine R_eqS_ic (tgt := 1332) (pc' := 720) dL_law_717 (by decide) hc13 rfl ?_
        exact WP_wk (wk_e (wk_e (wk_e (wk_e wk_n)))) h
      · have h := h.2 hc13
        refine R_eqD_ic (tgt := 1332) (pc' := 720) dL_law_717 (by decide) hc13 h.1 rfl ?_
        have h := h.2
        refine R_iconst (pc' := 721) dL_law_720 rfl ?_
        exact R_zret dL_law_721 rfl (nar_bool (Or.inl rfl)).1 hkc hks h
    · have h := h.2 hc9
      refine R_eqD_if (tgt := 708) (pc' := 704) dL_law_701 (by decide) hc9 h.1 rfl ?_
      have h := h.2
      refine R_iconst (pc' := 705) dL_law_704 rfl ?_
      refine R_goto (tgt := 709) dL_law_705 (by decide) ?_
      refine R_aload_n3 (pc' := 710) dL_law_709 rfl rfl ?_
      refine R_iload_n (pc' := 711) dL_law_710 rfl rfl ?_
      refine R_iconst (pc' := 712) dL_law_711 rfl ?_
      refine R_iadd (pc' := 713) dL_law_712 rfl ?_
      have hs14 := h.1
      have h := h.2
      refine Q_roload (i := 0) (N := (K.2.1 : Int)) (pc' := 714) rfl dL_law_713 (by decide) hs14 rfl ?_
      refine Q_callVI (vs := [(0, (roC K 0 (Int.toNat (a3 + 1)))), (0, 1), (0, (roC K 0 (Int.toNat (a3 + 3))))]) (st := [(0, r6)]) (pc' := 717) dL_law_714 l_RL_90 i108 (by decide) rfl rfl (Nat.le_of_ble_eq_true rfl) rfl hkc hks rfl ?_
      refine CI.mono h (fun c15 r16 h => ?_)
      by_cases hc17 : r6 = r16
      · have h := h.1 hc17
        refine R_eqS_ic (tgt := 1332) (pc' := 720) dL_law_717 (by decide) hc17 rfl ?_
        exact WP_wk (wk_e (wk_e (wk_e (wk_e wk_n)))) h
      · have h := h.2 hc17
        refine R_eqD_ic (tgt := 1332) (pc' := 720) dL_law_717 (by decide) hc17 h.1 rfl ?_
        have h := h.2
        refine R_iconst (pc' := 721) dL_law_720 rfl ?_
        exact R_zret dL_law_721 rfl (nar_bool (Or.inl rfl)).1 hkc hks h
  · have h := h.2 hc3
    refine R_eqD_if (tgt := 681) (pc' := 677) dL_law_674 (by decide) hc3 h.1 rfl ?_
    have h := h.2
    refine R_iconst (pc' := 678) dL_law_677 rfl ?_
    refine R_goto (tgt := 682) dL_law_678 (by decide) ?_
    refine R_aload_n3 (pc' := 683) dL_law_682 rfl rfl ?_
    refine R_iload_n (pc' := 684) dL_law_683 rfl rfl ?_
    refine R_iconst (pc' := 685) dL_law_684 rfl ?_
    refine R_iadd (pc' := 686) dL_law_685 rfl ?_
    have hs18 := h.1
    have h := h.2
    refine Q_roload (i := 0) (N := (K.2.1 : Int)) (pc' := 687) rfl dL_law_686 (by decide) hs18 rfl ?_
    refine Q_callVI (vs := [(0, (roC K 0 (Int.toNat (a3 + 1)))), (0, 1), (0, (roC K 0 (Int.toNat (a3 + 3))))]) (st := []) (pc' := 690) dL_law_687 l_RL_86 i0 (by decide) rfl rfl (Nat.le_of_ble_eq_true rfl) rfl hkc hks rfl ?_
    refine CI.mono h (fun c19 r20 h => ?_)
    refine R_aload_n (pc' := 691) dL_law_690 rfl i108.1 rfl ?_
    refine R_aload_n3 (pc' := 692) dL_law_691 rfl rfl ?_
    refine R_iload_n (pc' := 693) dL_law_692 rfl rfl ?_
    refine R_iconst (pc' := 694) dL_law_693 rfl ?_
    refine R_iadd (pc' := 695) dL_law_694 rfl ?_
    have hs21 := h.1
    have h := h.2
    refine Q_roload (i := 0) (N := (K.2.1 : Int)) (pc' := 696) rfl dL_law_695 (by decide) hs21 rfl ?_
    refine R_aload_n3 (pc' := 697) dL_law_696 rfl rfl ?_
    refine R_iload_n (pc' := 698) dL_law_697 rfl rfl ?_
    refine R_iconst (pc' := 699) dL_law_698 rfl ?_
    refine R_iadd (pc' := 700) dL_law_699 rfl ?_
    have hs22 := h.1
    have h := h.2
    refine Q_roload (i := 0) (N := (K.2.1 : Int)) (pc' := 701) rfl dL_law_700 (by decide) hs22 rfl ?_
    by_cases hc23 : (roC K 0 (Int.toNat (a3 + 2))) = 0
    · have h := h.1 hc23
      refine R_eqS_if (tgt := 708) (pc' := 704) dL_law_701 (by decide) hc23 rfl ?_
      refine R_iconst (pc' := 709) dL_law_708 rfl ?_
      refine R_aload_n3 (pc' := 710) dL_law_709 rfl rfl ?_
      refine R_iload_n (pc' := 711) dL_law_710 rfl rfl ?_
      refine R_iconst (pc' := 712) dL_law_711 rfl ?_
      refine R_iadd (pc' := 713) dL_law_712 rfl ?_
      have hs24 := h.1
      have h := h.2
      refine Q_roload (i := 0) (N := (K.2.1 : Int)) (pc' := 714) rfl dL_law_713 (by decide) hs24 rfl ?_
      refine Q_callVI (vs := [(0, (roC K 0 (Int.toNat (a3 + 1)))), (0, 0), (0, (roC K 0 (Int.toNat (a3 + 3))))]) (st := [(0, r20)]) (pc' := 717) dL_law_714 l_RL_90 i108 (by decide) rfl rfl (Nat.le_of_ble_eq_true rfl) rfl hkc hks rfl ?_
      refine CI.mono h (fun c25 r26 h => ?_)
      by_cases hc27 : r20 = r26
      · have h := h.1 hc27
        refine R_eqS_ic (tgt := 1332) (pc' := 720) dL_law_717 (by decide) hc27 rfl ?_
        exact WP_wk (wk_e (wk_e (wk_e (wk_e wk_n)))) h
      · have h := h.2 hc27
        refine R_eqD_ic (tgt := 1332) (pc' := 720) dL_law_717 (by decide) hc27 h.1 rfl ?_
        have h := h.2
        refine R_iconst (pc' := 721) dL_law_720 rfl ?_
        exact R_zret dL_law_721 rfl (nar_bool (Or.inl rfl)).1 hkc hks h
    · have h := h.2 hc23
      refine R_eqD_if (tgt := 708) (pc' := 704) dL_law_701 (by decide) hc23 h.1 rfl ?_
      have h := h.2
      refine R_iconst (pc' := 705) dL_law_704 rfl ?_
      refine R_goto (tgt := 709) dL_law_705 (by decide) ?_
      refine R_aload_n3 (pc' := 710) dL_law_709 rfl rfl ?_
      refine R_iload_n (pc' := 711) dL_law_710 rfl rfl ?_
      refine R_iconst (pc' := 712) dL_law_711 rfl ?_
      refine R_iadd (pc' := 713) dL_law_712 rfl ?_
      have hs28 := h.1
      have h := h.2
      refine Q_roload (i := 0) (N := (K.2.1 : Int)) (pc' := 714) rfl dL_law_713 (by decide) hs28 rfl ?_
      refine Q_callVI (vs := [(0, (roC K 0 (Int.toNat (a3 + 1)))), (0, 1), (0, (roC K 0 (Int.toNat (a3 + 3))))]) (st := [(0, r20)]) (pc' := 717) dL_law_714 l_RL_90 i108 (by decide) rfl rfl (Nat.le_of_ble_eq_true rfl) rfl hkc hks rfl ?_
      refine CI.mono h (fun c29 r30 h => ?_)
      by_cases hc31 : r20 = r30
      · have h := h.1 hc31
        refine R_eqS_ic (tgt := 1332) (pc' := 720) dL_law_717 (by decide) hc31 rfl ?_
        exact WP_wk (wk_e (wk_e (wk_e (wk_e wk_n)))) h
      · have h := h.2 hc31
        refine R_eqD_ic (tgt := 1332) (pc' := 720) dL_law_717 (by decide) hc31 h.1 rfl ?_
        have h := h.2
        refine R_iconst (pc' := 721) dL_law_720 rfl ?_
        exact R_zret dL_law_721 rfl (nar_bool (Or.inl rfl)).1 hkc hks h
set_option maxRecDepth 100000 in
theorem s_L_law_722 {K : SK} {d kc ks : Nat} {c : ct} {Q : hp → av → Prop} (hkc : kc ≤ mL_law.2.2.2.2.1) (hks : ks ≤ mL_law.2.2.2.2.2) (a3 : Int) (h : ((0 ≤ (a3 + 1) ∧ (a3 + 1) < (K.2.1 : Int))) ∧ CI K d mX8_where [(2, 0), (0, (roC K 0 (Int.toNat (a3 + 1))))] c (fun c2 r3 => ((0 ≤ (a3 + 1) ∧ (a3 + 1) < (K.2.1 : Int))) ∧ CI K d mX9_where [(2, 108), (0, (roC K 0 (Int.toNat (a3 + 1))))] c2 (fun c5 r6 => (r3 = r6 → WP K (d + 1) mL_law kc ks 1332 [(3, ((0 : Nat) : Int)), (2, 0), (2, 108), (0, a3)] [] (wG c5) Q) ∧ (¬ (r3 = r6) → (ir r3 ∧ ir r6) ∧ Q (wG c5) (0, 0))))) : WP K (d + 1) mL_law kc ks 722 [(3, ((0 : Nat) : Int)), (2, 0), (2, 108), (0, a3)] [] (wG c) Q := by
  refine R_aload_n (pc' := 723) dL_law_722 rfl i0.1 rfl ?_
  refine R_aload_n3 (pc' := 724) dL_law_723 rfl rfl ?_
  refine R_iload_n (pc' := 725) dL_law_724 rfl rfl ?_
  refine R_iconst (pc' := 726) dL_law_725 rfl ?_
  refine R_iadd (pc' := 727) dL_law_726 rfl ?_
  have hs1 := h.1
  have h := h.2
  refine Q_roload (i := 0) (N := (K.2.1 : Int)) (pc' := 728) rfl dL_law_727 (by decide) hs1 rfl ?_
  refine Q_callVI (vs := [(0, (roC K 0 (Int.toNat (a3 + 1))))]) (st := []) (pc' := 731) dL_law_728 l_RL_91 i0 (by decide) rfl rfl (Nat.le_of_ble_eq_true rfl) rfl hkc hks rfl ?_
  refine CI.mono h (fun c2 r3 h => ?_)
  refine R_aload_n (pc' := 732) dL_law_731 rfl i108.1 rfl ?_
  refine R_aload_n3 (pc' := 733) dL_law_732 rfl rfl ?_
  refine R_iload_n (pc' := 734) dL_law_733 rfl rfl ?_
  refine R_iconst (pc' := 735) dL_law_734 rfl ?_
  refine R_iadd (pc' := 736) dL_law_735 rfl ?_
  have hs4 := h.1
  have h := h.2
  refine Q_roload (i := 0) (N := (K.2.1 : Int)) (pc' := 737) rfl dL_law_736 (by decide) hs4 rfl ?_
  refine Q_callVI (vs := [(0, (roC K 0 (Int.toNat (a3 + 1))))]) (st := [(0, r3)]) (pc' := 740) dL_law_737 l_RL_94 i108 (by decide) rfl rfl (Nat.le_of_ble_eq_true rfl) rfl hkc hks rfl ?_
  refine CI.mono h (fun c5 r6 h => ?_)
  by_cases hc7 : r3 = r6
  · have h := h.1 hc7
    refine R_eqS_ic (tgt := 1332) (pc' := 743) dL_law_740 (by decide) hc7 rfl ?_
    exact WP_wk (wk_e (wk_e (wk_e (wk_e wk_n)))) h
  · have h := h.2 hc7
    refine R_eqD_ic (tgt := 1332) (pc' := 743) dL_law_740 (by decide) hc7 h.1 rfl ?_
    have h := h.2
    refine R_iconst (pc' := 744) dL_law_743 rfl ?_
    exact R_zret dL_law_744 rfl (nar_bool (Or.inl rfl)).1 hkc hks h
set_option maxRecDepth 100000 in
theorem s_L_law_745 {K : SK} {d kc ks : Nat} {c : ct} {Q : hp → av → Prop} (hkc : kc ≤ mL_law.2.2.2.2.1) (hks : ks ≤ mL_law.2.2.2.2.2) (a3 : Int) (h : ((0 ≤ (a3 + 1) ∧ (a3 + 1) < (K.2.1 : Int))) ∧ ((0 ≤ (a3 + 2) ∧ (a3 + 2) < (K.2.1 : Int))) ∧ CI K d mX8_can [(2, 0), (0, (roC K 0 (Int.toNat (a3 + 1)))), (0, (roC K 0 (Int.toNat (a3 + 2))))] c (fun c3 r4 => ((0 ≤ (a3 + 1) ∧ (a3 + 1) < (K.2.1 : Int))) ∧ ((0 ≤ (a3 + 2) ∧ (a3 + 2) < (K.2.1 : Int))) ∧ CI K d mX9_can [(2, 108), (0, (roC K 0 (Int.toNat (a3 + 1)))), (0, (roC K 0 (Int.toNat (a3 + 2))))] c3 (fun c7 r8 => (r4 = r8 → WP K (d + 1) mL_law kc ks 1332 [(3, ((0 : Nat) : Int)), (2, 0), (2, 108), (0, a3)] [] (wG c7) Q) ∧ (¬ (r4 = r8) → (ir r4 ∧ ir r8) ∧ Q (wG c7) (0, 0))))) : WP K (d + 1) mL_law kc ks 745 [(3, ((0 : Nat) : Int)), (2, 0), (2, 108), (0, a3)] [] (wG c) Q := by
  refine R_aload_n (pc' := 746) dL_law_745 rfl i0.1 rfl ?_
  refine R_aload_n3 (pc' := 747) dL_law_746 rfl rfl ?_
  refine R_iload_n (pc' := 748) dL_law_747 rfl rfl ?_
  refine R_iconst (pc' := 749) dL_law_748 rfl ?_
  refine R_iadd (pc' := 750) dL_law_749 rfl ?_
  have hs1 := h.1
  have h := h.2
  refine Q_roload (i := 0) (N := (K.2.1 : Int)) (pc' := 751) rfl dL_law_750 (by decide) hs1 rfl ?_
  refine R_aload_n3 (pc' := 752) dL_law_751 rfl rfl ?_
  refine R_iload_n (pc' := 753) dL_law_752 rfl rfl ?_
  refine R_iconst (pc' := 754) dL_law_753 rfl ?_
  refine R_iadd (pc' := 755) dL_law_754 rfl ?_
  have hs2 := h.1
  have h := h.2
  refine Q_roload (i := 0) (N := (K.2.1 : Int)) (pc' := 756) rfl dL_law_755 (by decide) hs2 rfl ?_
  refine Q_callVI (vs := [(0, (roC K 0 (Int.toNat (a3 + 1)))), (0, (roC K 0 (Int.toNat (a3 + 2))))]) (st := []) (pc' := 759) dL_law_756 l_RL_95 i0 (by decide) rfl rfl (Nat.le_of_ble_eq_true rfl) rfl hkc hks rfl ?_
  refine CI.mono h (fun c3 r4 h => ?_)
  refine R_aload_n (pc' := 760) dL_law_759 rfl i108.1 rfl ?_
  refine R_aload_n3 (pc' := 761) dL_law_760 rfl rfl ?_
  refine R_iload_n (pc' := 762) dL_law_761 rfl rfl ?_
  refine R_iconst (pc' := 763) dL_law_762 rfl ?_
  refine R_iadd (pc' := 764) dL_law_763 rfl ?_
  have hs5 := h.1
  have h := h.2
  refine Q_roload (i := 0) (N := (K.2.1 : Int)) (pc' := 765) rfl dL_law_764 (by decide) hs5 rfl ?_
  refine R_aload_n3 (pc' := 766) dL_law_765 rfl rfl ?_
  refine R_iload_n (pc' := 767) dL_law_766 rfl rfl ?_
  refine R_iconst (pc' := 768) dL_law_767 rfl ?_
  refine R_iadd (pc' := 769) dL_law_768 rfl ?_
  have hs6 := h.1
  have h := h.2
  refine Q_roload (i := 0) (N := (K.2.1 : Int)) (pc' := 770) rfl dL_law_769 (by decide) hs6 rfl ?_
  refine Q_callVI (vs := [(0, (roC K 0 (Int.toNat (a3 + 1)))), (0, (roC K 0 (Int.toNat (a3 + 2))))]) (st := [(0, r4)]) (pc' := 773) dL_law_770 l_RL_98 i108 (by decide) rfl rfl (Nat.le_of_ble_eq_true rfl) rfl hkc hks rfl ?_
  refine CI.mono h (fun c7 r8 h => ?_)
  by_cases hc9 : r4 = r8
  · have h := h.1 hc9
    refine R_eqS_ic (tgt := 1332) (pc' := 776) dL_law_773 (by decide) hc9 rfl ?_
    exact WP_wk (wk_e (wk_e (wk_e (wk_e wk_n)))) h
  · have h := h.2 hc9
    refine R_eqD_ic (tgt := 1332) (pc' := 776) dL_law_773 (by decide) hc9 h.1 rfl ?_
    have h := h.2
    refine R_iconst (pc' := 777) dL_law_776 rfl ?_
    exact R_zret dL_law_777 rfl (nar_bool (Or.inl rfl)).1 hkc hks h
set_option maxRecDepth 100000 in
theorem s_L_law_778 {K : SK} {d kc ks : Nat} {c : ct} {Q : hp → av → Prop} (hkc : kc ≤ mL_law.2.2.2.2.1) (hks : ks ≤ mL_law.2.2.2.2.2) (a3 : Int) (h : ((0 ≤ (a3 + 1) ∧ (a3 + 1) < (K.2.1 : Int))) ∧ ((0 ≤ (a3 + 2) ∧ (a3 + 2) < (K.2.1 : Int))) ∧ CL K d mX8_odds [(2, 0), (0, (roC K 0 (Int.toNat (a3 + 1)))), (0, (roC K 0 (Int.toNat (a3 + 2))))] c (fun c3 r4 => ((0 ≤ (a3 + 1) ∧ (a3 + 1) < (K.2.1 : Int))) ∧ ((0 ≤ (a3 + 2) ∧ (a3 + 2) < (K.2.1 : Int))) ∧ CL K d mX9_odds [(2, 108), (0, (roC K 0 (Int.toNat (a3 + 1)))), (0, (roC K 0 (Int.toNat (a3 + 2))))] c3 (fun c7 r8 => (r4 = r8 → WP K (d + 1) mL_law kc ks 1332 [(3, ((0 : Nat) : Int)), (2, 0), (2, 108), (0, a3)] [] (wG c7) Q) ∧ (¬ (r4 = r8) → (il r4 ∧ il r8) ∧ ∀ z9 : Int, z9 = (if r8 < r4 then 1 else -1) → (z9 = 0 → WP K (d + 1) mL_law kc ks 1332 [(3, ((0 : Nat) : Int)), (2, 0), (2, 108), (0, a3)] [] (wG c7) Q) ∧ (¬ (z9 = 0) → ir z9 ∧ Q (wG c7) (0, 0)))))) : WP K (d + 1) mL_law kc ks 778 [(3, ((0 : Nat) : Int)), (2, 0), (2, 108), (0, a3)] [] (wG c) Q := by
  refine R_aload_n (pc' := 779) dL_law_778 rfl i0.1 rfl ?_
  refine R_aload_n3 (pc' := 780) dL_law_779 rfl rfl ?_
  refine R_iload_n (pc' := 781) dL_law_780 rfl rfl ?_
  refine R_iconst (pc' := 782) dL_law_781 rfl ?_
  refine R_iadd (pc' := 783) dL_law_782 rfl ?_
  have hs1 := h.1
  have h := h.2
  refine Q_roload (i := 0) (N := (K.2.1 : Int)) (pc' := 784) rfl dL_law_783 (by decide) hs1 rfl ?_
  refine R_aload_n3 (pc' := 785) dL_law_784 rfl rfl ?_
  refine R_iload_n (pc' := 786) dL_law_785 rfl rfl ?_
  refine R_iconst (pc' := 787) dL_law_786 rfl ?_
  refine R_iadd (pc' := 788) dL_law_787 rfl ?_
  have hs2 := h.1
  have h := h.2
  refine Q_roload (i := 0) (N := (K.2.1 : Int)) (pc' := 789) rfl dL_law_788 (by decide) hs2 rfl ?_
  refine Q_callVL (vs := [(0, (roC K 0 (Int.toNat (a3 + 1)))), (0, (roC K 0 (Int.toNat (a3 + 2))))]) (st := []) (pc' := 792) dL_law_789 l_RL_99 i0 (by decide) rfl rfl (Nat.le_of_ble_eq_true rfl) rfl hkc hks rfl ?_
  refine CL.mono h (fun c3 r4 h => ?_)
  refine R_aload_n (pc' := 793) dL_law_792 rfl i108.1 rfl ?_
  refine R_aload_n3 (pc' := 794) dL_law_793 rfl rfl ?_
  refine R_iload_n (pc' := 795) dL_law_794 rfl rfl ?_
  refine R_iconst (pc' := 796) dL_law_795 rfl ?_
  refine R_iadd (pc' := 797) dL_law_796 rfl ?_
  have hs5 := h.1
  have h := h.2
  refine Q_roload (i := 0) (N := (K.2.1 : Int)) (pc' := 798) rfl dL_law_797 (by decide) hs5 rfl ?_
  refine R_aload_n3 (pc' := 799) dL_law_798 rfl rfl ?_
  refine R_iload_n (pc' := 800) dL_law_799 rfl rfl ?_
  refine R_iconst (pc' := 801) dL_law_800 rfl ?_
  refine R_iadd (pc' := 802) dL_law_801 rfl ?_
  have hs6 := h.1
  have h := h.2
  refine Q_roload (i := 0) (N := (K.2.1 : Int)) (pc' := 803) rfl dL_law_802 (by decide) hs6 rfl ?_
  refine Q_callVL (vs := [(0, (roC K 0 (Int.toNat (a3 + 1)))), (0, (roC K 0 (Int.toNat (a3 + 2))))]) (st := [(1, r4)]) (pc' := 806) dL_law_803 l_RL_103 i108 (by decide) rfl rfl (Nat.le_of_ble_eq_true rfl) rfl hkc hks rfl ?_
  refine CL.mono h (fun c7 r8 h => ?_)
  by_cases hq11 : r4 = r8
  · have h := h.1 hq11
    refine R_lcmp_eq (pc' := 807) dL_law_806 hq11 rfl ?_
    refine R_eqS_if (tgt := 1332) (pc' := 810) dL_law_807 (by decide) rfl rfl ?_
    exact WP_wk (wk_e (wk_e (wk_e (wk_e wk_n)))) h
  · have h := h.2 hq11
    refine R_lcmp_ne (pc' := 807) dL_law_806 h.1.1 h.1.2 hq11 rfl rfl ?_
    have h := h.2 _ rfl
    generalize (if r8 < r4 then (1 : Int) else -1) = z9 at h ⊢
    by_cases hc10 : z9 = 0
    · have h := h.1 hc10
      refine R_eqS_if (tgt := 1332) (pc' := 810) dL_law_807 (by decide) hc10 rfl ?_
      exact WP_wk (wk_e (wk_e (wk_e (wk_e wk_n)))) h
    · have h := h.2 hc10
      refine R_eqD_if (tgt := 1332) (pc' := 810) dL_law_807 (by decide) hc10 h.1 rfl ?_
      have h := h.2
      refine R_iconst (pc' := 811) dL_law_810 rfl ?_
      exact R_zret dL_law_811 rfl (nar_bool (Or.inl rfl)).1 hkc hks h
set_option maxRecDepth 100000 in
theorem s_L_law_812 {K : SK} {d kc ks : Nat} {c : ct} {Q : hp → av → Prop} (hkc : kc ≤ mL_law.2.2.2.2.1) (hks : ks ≤ mL_law.2.2.2.2.2) (a3 : Int) (h : ((0 ≤ (a3 + 1) ∧ (a3 + 1) < (K.2.1 : Int))) ∧ CL K d mX8_mean [(2, 0), (0, (roC K 0 (Int.toNat (a3 + 1))))] c (fun c2 r3 => ((0 ≤ (a3 + 1) ∧ (a3 + 1) < (K.2.1 : Int))) ∧ CL K d mX9_mean [(2, 108), (0, (roC K 0 (Int.toNat (a3 + 1))))] c2 (fun c5 r6 => (r3 = r6 → WP K (d + 1) mL_law kc ks 1332 [(3, ((0 : Nat) : Int)), (2, 0), (2, 108), (0, a3)] [] (wG c5) Q) ∧ (¬ (r3 = r6) → (il r3 ∧ il r6) ∧ ∀ z7 : Int, z7 = (if r6 < r3 then 1 else -1) → (z7 = 0 → WP K (d + 1) mL_law kc ks 1332 [(3, ((0 : Nat) : Int)), (2, 0), (2, 108), (0, a3)] [] (wG c5) Q) ∧ (¬ (z7 = 0) → ir z7 ∧ Q (wG c5) (0, 0)))))) : WP K (d + 1) mL_law kc ks 812 [(3, ((0 : Nat) : Int)), (2, 0), (2, 108), (0, a3)] [] (wG c) Q := by
  refine R_aload_n (pc' := 813) dL_law_812 rfl i0.1 rfl ?_
  refine R_aload_n3 (pc' := 814) dL_law_813 rfl rfl ?_
  refine R_iload_n (pc' := 815) dL_law_814 rfl rfl ?_
  refine R_iconst (pc' := 816) dL_law_815 rfl ?_
  refine R_iadd (pc' := 817) dL_law_816 rfl ?_
  have hs1 := h.1
  have h := h.2
  refine Q_roload (i := 0) (N := (K.2.1 : Int)) (pc' := 818) rfl dL_law_817 (by decide) hs1 rfl ?_
  refine Q_callVL (vs := [(0, (roC K 0 (Int.toNat (a3 + 1))))]) (st := []) (pc' := 821) dL_law_818 l_RL_104 i0 (by decide) rfl rfl (Nat.le_of_ble_eq_true rfl) rfl hkc hks rfl ?_
  refine CL.mono h (fun c2 r3 h => ?_)
  refine R_aload_n (pc' := 822) dL_law_821 rfl i108.1 rfl ?_
  refine R_aload_n3 (pc' := 823) dL_law_822 rfl rfl ?_
  refine R_iload_n (pc' := 824) dL_law_823 rfl rfl ?_
  refine R_iconst (pc' := 825) dL_law_824 rfl ?_
  refine R_iadd (pc' := 826) dL_law_825 rfl ?_
  have hs4 := h.1
  have h := h.2
  refine Q_roload (i := 0) (N := (K.2.1 : Int)) (pc' := 827) rfl dL_law_826 (by decide) hs4 rfl ?_
  refine Q_callVL (vs := [(0, (roC K 0 (Int.toNat (a3 + 1))))]) (st := [(1, r3)]) (pc' := 830) dL_law_827 l_RL_108 i108 (by decide) rfl rfl (Nat.le_of_ble_eq_true rfl) rfl hkc hks rfl ?_
  refine CL.mono h (fun c5 r6 h => ?_)
  by_cases hq9 : r3 = r6
  · have h := h.1 hq9
    refine R_lcmp_eq (pc' := 831) dL_law_830 hq9 rfl ?_
    refine R_eqS_if (tgt := 1332) (pc' := 834) dL_law_831 (by decide) rfl rfl ?_
    exact WP_wk (wk_e (wk_e (wk_e (wk_e wk_n)))) h
  · have h := h.2 hq9
    refine R_lcmp_ne (pc' := 831) dL_law_830 h.1.1 h.1.2 hq9 rfl rfl ?_
    have h := h.2 _ rfl
    generalize (if r6 < r3 then (1 : Int) else -1) = z7 at h ⊢
    by_cases hc8 : z7 = 0
    · have h := h.1 hc8
      refine R_eqS_if (tgt := 1332) (pc' := 834) dL_law_831 (by decide) hc8 rfl ?_
      exact WP_wk (wk_e (wk_e (wk_e (wk_e wk_n)))) h
    · have h := h.2 hc8
      refine R_eqD_if (tgt := 1332) (pc' := 834) dL_law_831 (by decide) hc8 h.1 rfl ?_
      have h := h.2
      refine R_iconst (pc' := 835) dL_law_834 rfl ?_
      exact R_zret dL_law_835 rfl (nar_bool (Or.inl rfl)).1 hkc hks h
set_option maxRecDepth 100000 in
theorem s_L_law_836 {K : SK} {d kc ks : Nat} {c : ct} {Q : hp → av → Prop} (hkc : kc ≤ mL_law.2.2.2.2.1) (hks : ks ≤ mL_law.2.2.2.2.2) (a3 : Int) (h : ((0 ≤ (a3 + 1) ∧ (a3 + 1) < (K.2.1 : Int))) ∧ ((0 ≤ (a3 + 2) ∧ (a3 + 2) < (K.2.1 : Int))) ∧ CI K d mX8_plan [(2, 0), (0, (roC K 0 (Int.toNat (a3 + 1)))), (0, (roC K 0 (Int.toNat (a3 + 2))))] c (fun c3 r4 => ((0 ≤ (a3 + 1) ∧ (a3 + 1) < (K.2.1 : Int))) ∧ ((0 ≤ (a3 + 2) ∧ (a3 + 2) < (K.2.1 : Int))) ∧ CI K d mX9_plan [(2, 108), (0, (roC K 0 (Int.toNat (a3 + 1)))), (0, (roC K 0 (Int.toNat (a3 + 2))))] c3 (fun c7 r8 => (r4 = r8 → WP K (d + 1) mL_law kc ks 1332 [(3, ((0 : Nat) : Int)), (2, 0), (2, 108), (0, a3)] [] (wG c7) Q) ∧ (¬ (r4 = r8) → (ir r4 ∧ ir r8) ∧ Q (wG c7) (0, 0))))) : WP K (d + 1) mL_law kc ks 836 [(3, ((0 : Nat) : Int)), (2, 0), (2, 108), (0, a3)] [] (wG c) Q := by
  refine R_aload_n (pc' := 837) dL_law_836 rfl i0.1 rfl ?_
  refine R_aload_n3 (pc' := 838) dL_law_837 rfl rfl ?_
  refine R_iload_n (pc' := 839) dL_law_838 rfl rfl ?_
  refine R_iconst (pc' := 840) dL_law_839 rfl ?_
  refine R_iadd (pc' := 841) dL_law_840 rfl ?_
  have hs1 := h.1
  have h := h.2
  refine Q_roload (i := 0) (N := (K.2.1 : Int)) (pc' := 842) rfl dL_law_841 (by decide) hs1 rfl ?_
  refine R_aload_n3 (pc' := 843) dL_law_842 rfl rfl ?_
  refine R_iload_n (pc' := 844) dL_law_843 rfl rfl ?_
  refine R_iconst (pc' := 845) dL_law_844 rfl ?_
  refine R_iadd (pc' := 846) dL_law_845 rfl ?_
  have hs2 := h.1
  have h := h.2
  refine Q_roload (i := 0) (N := (K.2.1 : Int)) (pc' := 847) rfl dL_law_846 (by decide) hs2 rfl ?_
  refine Q_callVI (vs := [(0, (roC K 0 (Int.toNat (a3 + 1)))), (0, (roC K 0 (Int.toNat (a3 + 2))))]) (st := []) (pc' := 850) dL_law_847 l_RL_109 i0 (by decide) rfl rfl (Nat.le_of_ble_eq_true rfl) rfl hkc hks rfl ?_
  refine CI.mono h (fun c3 r4 h => ?_)
  refine R_aload_n (pc' := 851) dL_law_850 rfl i108.1 rfl ?_
  refine R_aload_n3 (pc' := 852) dL_law_851 rfl rfl ?_
  refine R_iload_n (pc' := 853) dL_law_852 rfl rfl ?_
  refine R_iconst (pc' := 854) dL_law_853 rfl ?_
  refine R_iadd (pc' := 855) dL_law_854 rfl ?_
  have hs5 := h.1
  have h := h.2
  refine Q_roload (i := 0) (N := (K.2.1 : Int)) (pc' := 856) rfl dL_law_855 (by decide) hs5 rfl ?_
  refine R_aload_n3 (pc' := 857) dL_law_856 rfl rfl ?_
  refine R_iload_n (pc' := 858) dL_law_857 rfl rfl ?_
  refine R_iconst (pc' := 859) dL_law_858 rfl ?_
  refine R_iadd (pc' := 860) dL_law_859 rfl ?_
  have hs6 := h.1
  have h := h.2
  refine Q_roload (i := 0) (N := (K.2.1 : Int)) (pc' := 861) rfl dL_law_860 (by decide) hs6 rfl ?_
  refine Q_callVI (vs := [(0, (roC K 0 (Int.toNat (a3 + 1)))), (0, (roC K 0 (Int.toNat (a3 + 2))))]) (st := [(0, r4)]) (pc' := 864) dL_law_861 l_RL_112 i108 (by decide) rfl rfl (Nat.le_of_ble_eq_true rfl) rfl hkc hks rfl ?_
  refine CI.mono h (fun c7 r8 h => ?_)
  by_cases hc9 : r4 = r8
  · have h := h.1 hc9
    refine R_eqS_ic (tgt := 1332) (pc' := 867) dL_law_864 (by decide) hc9 rfl ?_
    exact WP_wk (wk_e (wk_e (wk_e (wk_e wk_n)))) h
  · have h := h.2 hc9
    refine R_eqD_ic (tgt := 1332) (pc' := 867) dL_law_864 (by decide) hc9 h.1 rfl ?_
    have h := h.2
    refine R_iconst (pc' := 868) dL_law_867 rfl ?_
    exact R_zret dL_law_868 rfl (nar_bool (Or.inl rfl)).1 hkc hks h
set_option maxRecDepth 100000 in
theorem s_L_law_869 {K : SK} {d kc ks : Nat} {c : ct} {Q : hp → av → Prop} (hkc : kc ≤ mL_law.2.2.2.2.1) (hks : ks ≤ mL_law.2.2.2.2.2) (a3 : Int) (h : ((0 ≤ (a3 + 1) ∧ (a3 + 1) < (K.2.1 : Int))) ∧ CI K d mX8_ends [(2, 0), (0, (roC K 0 (Int.toNat (a3 + 1))))] c (fun c2 r3 => ((0 ≤ (a3 + 1) ∧ (a3 + 1) < (K.2.1 : Int))) ∧ CI K d mX9_ends [(2, 108), (0, (roC K 0 (Int.toNat (a3 + 1))))] c2 (fun c5 r6 => (r3 = r6 → WP K (d + 1) mL_law kc ks 1332 [(3, ((0 : Nat) : Int)), (2, 0), (2, 108), (0, a3)] [] (wG c5) Q) ∧ (¬ (r3 = r6) → (ir r3 ∧ ir r6) ∧ Q (wG c5) (0, 0))))) : WP K (d + 1) mL_law kc ks 869 [(3, ((0 : Nat) : Int)), (2, 0), (2, 108), (0, a3)] [] (wG c) Q := by
  refine R_aload_n (pc' := 870) dL_law_869 rfl i0.1 rfl ?_
  refine R_aload_n3 (pc' := 871) dL_law_870 rfl rfl ?_
  refine R_iload_n (pc' := 872) dL_law_871 rfl rfl ?_
  refine R_iconst (pc' := 873) dL_law_872 rfl ?_
  refine R_iadd (pc' := 874) dL_law_873 rfl ?_
  have hs1 := h.1
  have h := h.2
  refine Q_roload (i := 0) (N := (K.2.1 : Int)) (pc' := 875) rfl dL_law_874 (by decide) hs1 rfl ?_
  refine Q_callVI (vs := [(0, (roC K 0 (Int.toNat (a3 + 1))))]) (st := []) (pc' := 878) dL_law_875 l_RL_113 i0 (by decide) rfl rfl (Nat.le_of_ble_eq_true rfl) rfl hkc hks rfl ?_
  refine CI.mono h (fun c2 r3 h => ?_)
  refine R_aload_n (pc' := 879) dL_law_878 rfl i108.1 rfl ?_
  refine R_aload_n3 (pc' := 880) dL_law_879 rfl rfl ?_
  refine R_iload_n (pc' := 881) dL_law_880 rfl rfl ?_
  refine R_iconst (pc' := 882) dL_law_881 rfl ?_
  refine R_iadd (pc' := 883) dL_law_882 rfl ?_
  have hs4 := h.1
  have h := h.2
  refine Q_roload (i := 0) (N := (K.2.1 : Int)) (pc' := 884) rfl dL_law_883 (by decide) hs4 rfl ?_
  refine Q_callVI (vs := [(0, (roC K 0 (Int.toNat (a3 + 1))))]) (st := [(0, r3)]) (pc' := 887) dL_law_884 l_RL_116 i108 (by decide) rfl rfl (Nat.le_of_ble_eq_true rfl) rfl hkc hks rfl ?_
  refine CI.mono h (fun c5 r6 h => ?_)
  by_cases hc7 : r3 = r6
  · have h := h.1 hc7
    refine R_eqS_ic (tgt := 1332) (pc' := 890) dL_law_887 (by decide) hc7 rfl ?_
    exact WP_wk (wk_e (wk_e (wk_e (wk_e wk_n)))) h
  · have h := h.2 hc7
    refine R_eqD_ic (tgt := 1332) (pc' := 890) dL_law_887 (by decide) hc7 h.1 rfl ?_
    have h := h.2
    refine R_iconst (pc' := 891) dL_law_890 rfl ?_
    exact R_zret dL_law_891 rfl (nar_bool (Or.inl rfl)).1 hkc hks h
set_option maxRecDepth 100000 in
theorem s_L_law_892 {K : SK} {d kc ks : Nat} {c : ct} {Q : hp → av → Prop} (hkc : kc ≤ mL_law.2.2.2.2.1) (hks : ks ≤ mL_law.2.2.2.2.2) (a3 : Int) (h : ((0 ≤ (a3 + 1) ∧ (a3 + 1) < (K.2.1 : Int))) ∧ ((0 ≤ (a3 + 2) ∧ (a3 + 2) < (K.2.1 : Int))) ∧ CI K d mX8_book [(2, 0), (0, (roC K 0 (Int.toNat (a3 + 1)))), (0, (roC K 0 (Int.toNat (a3 + 2))))] c (fun c3 r4 => ((0 ≤ (a3 + 1) ∧ (a3 + 1) < (K.2.1 : Int))) ∧ ((0 ≤ (a3 + 2) ∧ (a3 + 2) < (K.2.1 : Int))) ∧ CI K d mX9_book [(2, 108), (0, (roC K 0 (Int.toNat (a3 + 1)))), (0, (roC K 0 (Int.toNat (a3 + 2))))] c3 (fun c7 r8 => (r4 = r8 → WP K (d + 1) mL_law kc ks 1332 [(3, ((0 : Nat) : Int)), (2, 0), (2, 108), (0, a3)] [] (wG c7) Q) ∧ (¬ (r4 = r8) → (ir r4 ∧ ir r8) ∧ Q (wG c7) (0, 0))))) : WP K (d + 1) mL_law kc ks 892 [(3, ((0 : Nat) : Int)), (2, 0), (2, 108), (0, a3)] [] (wG c) Q := by
  refine R_aload_n (pc' := 893) dL_law_892 rfl i0.1 rfl ?_
  refine R_aload_n3 (pc' := 894) dL_law_893 rfl rfl ?_
  refine R_iload_n (pc' := 895) dL_law_894 rfl rfl ?_
  refine R_iconst (pc' := 896) dL_law_895 rfl ?_
  refine R_iadd (pc' := 897) dL_law_896 rfl ?_
  have hs1 := h.1
  have h := h.2
  refine Q_roload (i := 0) (N := (K.2.1 : Int)) (pc' := 898) rfl dL_law_897 (by decide) hs1 rfl ?_
  refine R_aload_n3 (pc' := 899) dL_law_898 rfl rfl ?_
  refine R_iload_n (pc' := 900) dL_law_899 rfl rfl ?_
  refine R_iconst (pc' := 901) dL_law_900 rfl ?_
  refine R_iadd (pc' := 902) dL_law_901 rfl ?_
  have hs2 := h.1
  have h := h.2
  refine Q_roload (i := 0) (N := (K.2.1 : Int)) (pc' := 903) rfl dL_law_902 (by decide) hs2 rfl ?_
  refine Q_callVI (vs := [(0, (roC K 0 (Int.toNat (a3 + 1)))), (0, (roC K 0 (Int.toNat (a3 + 2))))]) (st := []) (pc' := 906) dL_law_903 l_RL_117 i0 (by decide) rfl rfl (Nat.le_of_ble_eq_true rfl) rfl hkc hks rfl ?_
  refine CI.mono h (fun c3 r4 h => ?_)
  refine R_aload_n (pc' := 907) dL_law_906 rfl i108.1 rfl ?_
  refine R_aload_n3 (pc' := 908) dL_law_907 rfl rfl ?_
  refine R_iload_n (pc' := 909) dL_law_908 rfl rfl ?_
  refine R_iconst (pc' := 910) dL_law_909 rfl ?_
  refine R_iadd (pc' := 911) dL_law_910 rfl ?_
  have hs5 := h.1
  have h := h.2
  refine Q_roload (i := 0) (N := (K.2.1 : Int)) (pc' := 912) rfl dL_law_911 (by decide) hs5 rfl ?_
  refine R_aload_n3 (pc' := 913) dL_law_912 rfl rfl ?_
  refine R_iload_n (pc' := 914) dL_law_913 rfl rfl ?_
  refine R_iconst (pc' := 915) dL_law_914 rfl ?_
  refine R_iadd (pc' := 916) dL_law_915 rfl ?_
  have hs6 := h.1
  have h := h.2
  refine Q_roload (i := 0) (N := (K.2.1 : Int)) (pc' := 917) rfl dL_law_916 (by decide) hs6 rfl ?_
  refine Q_callVI (vs := [(0, (roC K 0 (Int.toNat (a3 + 1)))), (0, (roC K 0 (Int.toNat (a3 + 2))))]) (st := [(0, r4)]) (pc' := 920) dL_law_917 l_RL_120 i108 (by decide) rfl rfl (Nat.le_of_ble_eq_true rfl) rfl hkc hks rfl ?_
  refine CI.mono h (fun c7 r8 h => ?_)
  by_cases hc9 : r4 = r8
  · have h := h.1 hc9
    refine R_eqS_ic (tgt := 1332) (pc' := 923) dL_law_920 (by decide) hc9 rfl ?_
    exact WP_wk (wk_e (wk_e (wk_e (wk_e wk_n)))) h
  · have h := h.2 hc9
    refine R_eqD_ic (tgt := 1332) (pc' := 923) dL_law_920 (by decide) hc9 h.1 rfl ?_
    have h := h.2
    refine R_iconst (pc' := 924) dL_law_923 rfl ?_
    exact R_zret dL_law_924 rfl (nar_bool (Or.inl rfl)).1 hkc hks h
set_option maxRecDepth 100000 in
theorem s_L_law_925 {K : SK} {d kc ks : Nat} {c : ct} {Q : hp → av → Prop} (hkc : kc ≤ mL_law.2.2.2.2.1) (hks : ks ≤ mL_law.2.2.2.2.2) (a3 : Int) (h : CI K d mX8_looked [(2, 0)] c (fun c1 r2 => CI K d mX9_looked [(2, 108)] c1 (fun c3 r4 => (r2 = r4 → WP K (d + 1) mL_law kc ks 1332 [(3, ((0 : Nat) : Int)), (2, 0), (2, 108), (0, a3)] [] (wG c3) Q) ∧ (¬ (r2 = r4) → (ir r2 ∧ ir r4) ∧ Q (wG c3) (0, 0))))) : WP K (d + 1) mL_law kc ks 925 [(3, ((0 : Nat) : Int)), (2, 0), (2, 108), (0, a3)] [] (wG c) Q := by
  refine R_aload_n (pc' := 926) dL_law_925 rfl i0.1 rfl ?_
  refine Q_callVI (vs := []) (st := []) (pc' := 929) dL_law_926 l_RL_121 i0 (by decide) rfl rfl (Nat.le_of_ble_eq_true rfl) rfl hkc hks rfl ?_
  refine CI.mono h (fun c1 r2 h => ?_)
  refine R_aload_n (pc' := 930) dL_law_929 rfl i108.1 rfl ?_
  refine Q_callVI (vs := []) (st := [(0, r2)]) (pc' := 933) dL_law_930 l_RL_124 i108 (by decide) rfl rfl (Nat.le_of_ble_eq_true rfl) rfl hkc hks rfl ?_
  refine CI.mono h (fun c3 r4 h => ?_)
  by_cases hc5 : r2 = r4
  · have h := h.1 hc5
    refine R_eqS_ic (tgt := 1332) (pc' := 936) dL_law_933 (by decide) hc5 rfl ?_
    exact WP_wk (wk_e (wk_e (wk_e (wk_e wk_n)))) h
  · have h := h.2 hc5
    refine R_eqD_ic (tgt := 1332) (pc' := 936) dL_law_933 (by decide) hc5 h.1 rfl ?_
    have h := h.2
    refine R_iconst (pc' := 937) dL_law_936 rfl ?_
    exact R_zret dL_law_937 rfl (nar_bool (Or.inl rfl)).1 hkc hks h
set_option maxRecDepth 100000 in
theorem s_L_law_938 {K : SK} {d kc ks : Nat} {c : ct} {Q : hp → av → Prop} (hkc : kc ≤ mL_law.2.2.2.2.1) (hks : ks ≤ mL_law.2.2.2.2.2) (a3 : Int) (h : ((0 ≤ (a3 + 1) ∧ (a3 + 1) < (K.2.1 : Int))) ∧ ((0 ≤ (a3 + 2) ∧ (a3 + 2) < (K.2.1 : Int))) ∧ CI K d mX8_judge [(2, 0), (0, (roC K 0 (Int.toNat (a3 + 1)))), (0, (roC K 0 (Int.toNat (a3 + 2))))] c (fun c3 r4 => ((0 ≤ (a3 + 1) ∧ (a3 + 1) < (K.2.1 : Int))) ∧ ((0 ≤ (a3 + 2) ∧ (a3 + 2) < (K.2.1 : Int))) ∧ CI K d mX9_judge [(2, 108), (0, (roC K 0 (Int.toNat (a3 + 1)))), (0, (roC K 0 (Int.toNat (a3 + 2))))] c3 (fun c7 r8 => (r4 = r8 → WP K (d + 1) mL_law kc ks 1332 [(3, ((0 : Nat) : Int)), (2, 0), (2, 108), (0, a3)] [] (wG c7) Q) ∧ (¬ (r4 = r8) → (ir r4 ∧ ir r8) ∧ Q (wG c7) (0, 0))))) : WP K (d + 1) mL_law kc ks 938 [(3, ((0 : Nat) : Int)), (2, 0), (2, 108), (0, a3)] [] (wG c) Q := by
  refine R_aload_n (pc' := 939) dL_law_938 rfl i0.1 rfl ?_
  refine R_aload_n3 (pc' := 940) dL_law_939 rfl rfl ?_
  refine R_iload_n (pc' := 941) dL_law_940 rfl rfl ?_
  refine R_iconst (pc' := 942) dL_law_941 rfl ?_
  refine R_iadd (pc' := 943) dL_law_942 rfl ?_
  have hs1 := h.1
  have h := h.2
  refine Q_roload (i := 0) (N := (K.2.1 : Int)) (pc' := 944) rfl dL_law_943 (by decide) hs1 rfl ?_
  refine R_aload_n3 (pc' := 945) dL_law_944 rfl rfl ?_
  refine R_iload_n (pc' := 946) dL_law_945 rfl rfl ?_
  refine R_iconst (pc' := 947) dL_law_946 rfl ?_
  refine R_iadd (pc' := 948) dL_law_947 rfl ?_
  have hs2 := h.1
  have h := h.2
  refine Q_roload (i := 0) (N := (K.2.1 : Int)) (pc' := 949) rfl dL_law_948 (by decide) hs2 rfl ?_
  refine Q_callVI (vs := [(0, (roC K 0 (Int.toNat (a3 + 1)))), (0, (roC K 0 (Int.toNat (a3 + 2))))]) (st := []) (pc' := 952) dL_law_949 l_RL_125 i0 (by decide) rfl rfl (Nat.le_of_ble_eq_true rfl) rfl hkc hks rfl ?_
  refine CI.mono h (fun c3 r4 h => ?_)
  refine R_aload_n (pc' := 953) dL_law_952 rfl i108.1 rfl ?_
  refine R_aload_n3 (pc' := 954) dL_law_953 rfl rfl ?_
  refine R_iload_n (pc' := 955) dL_law_954 rfl rfl ?_
  refine R_iconst (pc' := 956) dL_law_955 rfl ?_
  refine R_iadd (pc' := 957) dL_law_956 rfl ?_
  have hs5 := h.1
  have h := h.2
  refine Q_roload (i := 0) (N := (K.2.1 : Int)) (pc' := 958) rfl dL_law_957 (by decide) hs5 rfl ?_
  refine R_aload_n3 (pc' := 959) dL_law_958 rfl rfl ?_
  refine R_iload_n (pc' := 960) dL_law_959 rfl rfl ?_
  refine R_iconst (pc' := 961) dL_law_960 rfl ?_
  refine R_iadd (pc' := 962) dL_law_961 rfl ?_
  have hs6 := h.1
  have h := h.2
  refine Q_roload (i := 0) (N := (K.2.1 : Int)) (pc' := 963) rfl dL_law_962 (by decide) hs6 rfl ?_
  refine Q_callVI (vs := [(0, (roC K 0 (Int.toNat (a3 + 1)))), (0, (roC K 0 (Int.toNat (a3 + 2))))]) (st := [(0, r4)]) (pc' := 966) dL_law_963 l_RL_128 i108 (by decide) rfl rfl (Nat.le_of_ble_eq_true rfl) rfl hkc hks rfl ?_
  refine CI.mono h (fun c7 r8 h => ?_)
  by_cases hc9 : r4 = r8
  · have h := h.1 hc9
    refine R_eqS_ic (tgt := 1332) (pc' := 969) dL_law_966 (by decide) hc9 rfl ?_
    exact WP_wk (wk_e (wk_e (wk_e (wk_e wk_n)))) h
  · have h := h.2 hc9
    refine R_eqD_ic (tgt := 1332) (pc' := 969) dL_law_966 (by decide) hc9 h.1 rfl ?_
    have h := h.2
    refine R_iconst (pc' := 970) dL_law_969 rfl ?_
    exact R_zret dL_law_970 rfl (nar_bool (Or.inl rfl)).1 hkc hks h
set_option maxRecDepth 100000 in
theorem s_L_law_971 {K : SK} {d kc ks : Nat} {c : ct} {Q : hp → av → Prop} (hkc : kc ≤ mL_law.2.2.2.2.1) (hks : ks ≤ mL_law.2.2.2.2.2) (a3 : Int) (h : CI K d mX8_image [(2, 0)] c (fun c1 r2 => CI K d mX9_image [(2, 108)] c1 (fun c3 r4 => (r2 = r4 → WP K (d + 1) mL_law kc ks 1332 [(3, ((0 : Nat) : Int)), (2, 0), (2, 108), (0, a3)] [] (wG c3) Q) ∧ (¬ (r2 = r4) → (ir r2 ∧ ir r4) ∧ Q (wG c3) (0, 0))))) : WP K (d + 1) mL_law kc ks 971 [(3, ((0 : Nat) : Int)), (2, 0), (2, 108), (0, a3)] [] (wG c) Q := by
  refine R_aload_n (pc' := 972) dL_law_971 rfl i0.1 rfl ?_
  refine Q_callVI (vs := []) (st := []) (pc' := 975) dL_law_972 l_RL_129 i0 (by decide) rfl rfl (Nat.le_of_ble_eq_true rfl) rfl hkc hks rfl ?_
  refine CI.mono h (fun c1 r2 h => ?_)
  refine R_aload_n (pc' := 976) dL_law_975 rfl i108.1 rfl ?_
  refine Q_callVI (vs := []) (st := [(0, r2)]) (pc' := 979) dL_law_976 l_RL_132 i108 (by decide) rfl rfl (Nat.le_of_ble_eq_true rfl) rfl hkc hks rfl ?_
  refine CI.mono h (fun c3 r4 h => ?_)
  by_cases hc5 : r2 = r4
  · have h := h.1 hc5
    refine R_eqS_ic (tgt := 1332) (pc' := 982) dL_law_979 (by decide) hc5 rfl ?_
    exact WP_wk (wk_e (wk_e (wk_e (wk_e wk_n)))) h
  · have h := h.2 hc5
    refine R_eqD_ic (tgt := 1332) (pc' := 982) dL_law_979 (by decide) hc5 h.1 rfl ?_
    have h := h.2
    refine R_iconst (pc' := 983) dL_law_982 rfl ?_
    exact R_zret dL_law_983 rfl (nar_bool (Or.inl rfl)).1 hkc hks h
set_option maxRecDepth 100000 in
theorem s_L_law_984 {K : SK} {d kc ks : Nat} {c : ct} {Q : hp → av → Prop} (hkc : kc ≤ mL_law.2.2.2.2.1) (hks : ks ≤ mL_law.2.2.2.2.2) (a3 : Int) (h : CI K d mX8_undo [(2, 0)] c (fun c1 r2 => CI K d mX9_undo [(2, 108)] c1 (fun c3 r4 => (r2 = r4 → WP K (d + 1) mL_law kc ks 1332 [(3, ((0 : Nat) : Int)), (2, 0), (2, 108), (0, a3)] [] (wG c3) Q) ∧ (¬ (r2 = r4) → (ir r2 ∧ ir r4) ∧ Q (wG c3) (0, 0))))) : WP K (d + 1) mL_law kc ks 984 [(3, ((0 : Nat) : Int)), (2, 0), (2, 108), (0, a3)] [] (wG c) Q := by
  refine R_aload_n (pc' := 985) dL_law_984 rfl i0.1 rfl ?_
  refine Q_callVI (vs := []) (st := []) (pc' := 988) dL_law_985 l_RL_133 i0 (by decide) rfl rfl (Nat.le_of_ble_eq_true rfl) rfl hkc hks rfl ?_
  refine CI.mono h (fun c1 r2 h => ?_)
  refine R_aload_n (pc' := 989) dL_law_988 rfl i108.1 rfl ?_
  refine Q_callVI (vs := []) (st := [(0, r2)]) (pc' := 992) dL_law_989 l_RL_136 i108 (by decide) rfl rfl (Nat.le_of_ble_eq_true rfl) rfl hkc hks rfl ?_
  refine CI.mono h (fun c3 r4 h => ?_)
  by_cases hc5 : r2 = r4
  · have h := h.1 hc5
    refine R_eqS_ic (tgt := 1332) (pc' := 995) dL_law_992 (by decide) hc5 rfl ?_
    exact WP_wk (wk_e (wk_e (wk_e (wk_e wk_n)))) h
  · have h := h.2 hc5
    refine R_eqD_ic (tgt := 1332) (pc' := 995) dL_law_992 (by decide) hc5 h.1 rfl ?_
    have h := h.2
    refine R_iconst (pc' := 996) dL_law_995 rfl ?_
    exact R_zret dL_law_996 rfl (nar_bool (Or.inl rfl)).1 hkc hks h
set_option maxRecDepth 100000 in
theorem s_L_law_997 {K : SK} {d kc ks : Nat} {c : ct} {Q : hp → av → Prop} (hkc : kc ≤ mL_law.2.2.2.2.1) (hks : ks ≤ mL_law.2.2.2.2.2) (a3 : Int) (h : ((0 ≤ (a3 + 1) ∧ (a3 + 1) < (K.2.1 : Int))) ∧ ((0 ≤ (a3 + 2) ∧ (a3 + 2) < (K.2.1 : Int))) ∧ ((0 ≤ (a3 + 3) ∧ (a3 + 3) < (K.2.1 : Int))) ∧ CI K d mX8_act [(2, 0), (0, (roC K 0 (Int.toNat (a3 + 1)))), (0, (roC K 0 (Int.toNat (a3 + 2)))), (0, (roC K 0 (Int.toNat (a3 + 3))))] c (fun c4 r5 => ((0 ≤ (a3 + 1) ∧ (a3 + 1) < (K.2.1 : Int))) ∧ ((0 ≤ (a3 + 2) ∧ (a3 + 2) < (K.2.1 : Int))) ∧ ((0 ≤ (a3 + 3) ∧ (a3 + 3) < (K.2.1 : Int))) ∧ CI K d mX9_act [(2, 108), (0, (roC K 0 (Int.toNat (a3 + 1)))), (0, (roC K 0 (Int.toNat (a3 + 2)))), (0, (roC K 0 (Int.toNat (a3 + 3))))] c4 (fun c9 r10 => (r5 = r10 → WP K (d + 1) mL_law kc ks 1332 [(3, ((0 : Nat) : Int)), (2, 0), (2, 108), (0, a3)] [] (wG c9) Q) ∧ (¬ (r5 = r10) → (ir r5 ∧ ir r10) ∧ Q (wG c9) (0, 0))))) : WP K (d + 1) mL_law kc ks 997 [(3, ((0 : Nat) : Int)), (2, 0), (2, 108), (0, a3)] [] (wG c) Q := by
  refine R_aload_n (pc' := 998) dL_law_997 rfl i0.1 rfl ?_
  refine R_aload_n3 (pc' := 999) dL_law_998 rfl rfl ?_
  refine R_iload_n (pc' := 1000) dL_law_999 rfl rfl ?_
  refine R_iconst (pc' := 1001) dL_law_1000 rfl ?_
  refine R_iadd (pc' := 1002) dL_law_1001 rfl ?_
  have hs1 := h.1
  have h := h.2
  refine Q_roload (i := 0) (N := (K.2.1 : Int)) (pc' := 1003) rfl dL_law_1002 (by decide) hs1 rfl ?_
  refine R_aload_n3 (pc' := 1004) dL_law_1003 rfl rfl ?_
  refine R_iload_n (pc' := 1005) dL_law_1004 rfl rfl ?_
  refine R_iconst (pc' := 1006) dL_law_1005 rfl ?_
  refine R_iadd (pc' := 1007) dL_law_1006 rfl ?_
  have hs2 := h.1
  have h := h.2
  refine Q_roload (i := 0) (N := (K.2.1 : Int)) (pc' := 1008) rfl dL_law_1007 (by decide) hs2 rfl ?_
  refine R_aload_n3 (pc' := 1009) dL_law_1008 rfl rfl ?_
  refine R_iload_n (pc' := 1010) dL_law_1009 rfl rfl ?_
  refine R_iconst (pc' := 1011) dL_law_1010 rfl ?_
  refine R_iadd (pc' := 1012) dL_law_1011 rfl ?_
  have hs3 := h.1
  have h := h.2
  refine Q_roload (i := 0) (N := (K.2.1 : Int)) (pc' := 1013) rfl dL_law_1012 (by decide) hs3 rfl ?_
  refine Q_callVI (vs := [(0, (roC K 0 (Int.toNat (a3 + 1)))), (0, (roC K 0 (Int.toNat (a3 + 2)))), (0, (roC K 0 (Int.toNat (a3 + 3))))]) (st := []) (pc' := 1016) dL_law_1013 l_RL_137 i0 (by decide) rfl rfl (Nat.le_of_ble_eq_true rfl) rfl hkc hks rfl ?_
  refine CI.mono h (fun c4 r5 h => ?_)
  refine R_aload_n (pc' := 1017) dL_law_1016 rfl i108.1 rfl ?_
  refine R_aload_n3 (pc' := 1018) dL_law_1017 rfl rfl ?_
  refine R_iload_n (pc' := 1019) dL_law_1018 rfl rfl ?_
  refine R_iconst (pc' := 1020) dL_law_1019 rfl ?_
  refine R_iadd (pc' := 1021) dL_law_1020 rfl ?_
  have hs6 := h.1
  have h := h.2
  refine Q_roload (i := 0) (N := (K.2.1 : Int)) (pc' := 1022) rfl dL_law_1021 (by decide) hs6 rfl ?_
  refine R_aload_n3 (pc' := 1023) dL_law_1022 rfl rfl ?_
  refine R_iload_n (pc' := 1024) dL_law_1023 rfl rfl ?_
  refine R_iconst (pc' := 1025) dL_law_1024 rfl ?_
  refine R_iadd (pc' := 1026) dL_law_1025 rfl ?_
  have hs7 := h.1
  have h := h.2
  refine Q_roload (i := 0) (N := (K.2.1 : Int)) (pc' := 1027) rfl dL_law_1026 (by decide) hs7 rfl ?_
  refine R_aload_n3 (pc' := 1028) dL_law_1027 rfl rfl ?_
  refine R_iload_n (pc' := 1029) dL_law_1028 rfl rfl ?_
  refine R_iconst (pc' := 1030) dL_law_1029 rfl ?_
  refine R_iadd (pc' := 1031) dL_law_1030 rfl ?_
  have hs8 := h.1
  have h := h.2
  refine Q_roload (i := 0) (N := (K.2.1 : Int)) (pc' := 1032) rfl dL_law_1031 (by decide) hs8 rfl ?_
  refine Q_callVI (vs := [(0, (roC K 0 (Int.toNat (a3 + 1)))), (0, (roC K 0 (Int.toNat (a3 + 2)))), (0, (roC K 0 (Int.toNat (a3 + 3))))]) (st := [(0, r5)]) (pc' := 1035) dL_law_1032 l_RL_140 i108 (by decide) rfl rfl (Nat.le_of_ble_eq_true rfl) rfl hkc hks rfl ?_
  refine CI.mono h (fun c9 r10 h => ?_)
  by_cases hc11 : r5 = r10
  · have h := h.1 hc11
    refine R_eqS_ic (tgt := 1332) (pc' := 1038) dL_law_1035 (by decide) hc11 rfl ?_
    exact WP_wk (wk_e (wk_e (wk_e (wk_e wk_n)))) h
  · have h := h.2 hc11
    refine R_eqD_ic (tgt := 1332) (pc' := 1038) dL_law_1035 (by decide) hc11 h.1 rfl ?_
    have h := h.2
    refine R_iconst (pc' := 1039) dL_law_1038 rfl ?_
    exact R_zret dL_law_1039 rfl (nar_bool (Or.inl rfl)).1 hkc hks h
set_option maxRecDepth 100000 in
theorem s_L_law_1040 {K : SK} {d kc ks : Nat} {c : ct} {Q : hp → av → Prop} (hkc : kc ≤ mL_law.2.2.2.2.1) (hks : ks ≤ mL_law.2.2.2.2.2) (a3 : Int) (h : ((0 ≤ (a3 + 1) ∧ (a3 + 1) < (K.2.1 : Int))) ∧ CI K d mX8_trace [(2, 0), (0, (roC K 0 (Int.toNat (a3 + 1))))] c (fun c2 r3 => ((0 ≤ (a3 + 1) ∧ (a3 + 1) < (K.2.1 : Int))) ∧ CI K d mX9_trace [(2, 108), (0, (roC K 0 (Int.toNat (a3 + 1))))] c2 (fun c5 r6 => (r3 = r6 → WP K (d + 1) mL_law kc ks 1332 [(3, ((0 : Nat) : Int)), (2, 0), (2, 108), (0, a3)] [] (wG c5) Q) ∧ (¬ (r3 = r6) → (ir r3 ∧ ir r6) ∧ Q (wG c5) (0, 0))))) : WP K (d + 1) mL_law kc ks 1040 [(3, ((0 : Nat) : Int)), (2, 0), (2, 108), (0, a3)] [] (wG c) Q := by
  refine R_aload_n (pc' := 1041) dL_law_1040 rfl i0.1 rfl ?_
  refine R_aload_n3 (pc' := 1042) dL_law_1041 rfl rfl ?_
  refine R_iload_n (pc' := 1043) dL_law_1042 rfl rfl ?_
  refine R_iconst (pc' := 1044) dL_law_1043 rfl ?_
  refine R_iadd (pc' := 1045) dL_law_1044 rfl ?_
  have hs1 := h.1
  have h := h.2
  refine Q_roload (i := 0) (N := (K.2.1 : Int)) (pc' := 1046) rfl dL_law_1045 (by decide) hs1 rfl ?_
  refine Q_callVI (vs := [(0, (roC K 0 (Int.toNat (a3 + 1))))]) (st := []) (pc' := 1049) dL_law_1046 l_RL_141 i0 (by decide) rfl rfl (Nat.le_of_ble_eq_true rfl) rfl hkc hks rfl ?_
  refine CI.mono h (fun c2 r3 h => ?_)
  refine R_aload_n (pc' := 1050) dL_law_1049 rfl i108.1 rfl ?_
  refine R_aload_n3 (pc' := 1051) dL_law_1050 rfl rfl ?_
  refine R_iload_n (pc' := 1052) dL_law_1051 rfl rfl ?_
  refine R_iconst (pc' := 1053) dL_law_1052 rfl ?_
  refine R_iadd (pc' := 1054) dL_law_1053 rfl ?_
  have hs4 := h.1
  have h := h.2
  refine Q_roload (i := 0) (N := (K.2.1 : Int)) (pc' := 1055) rfl dL_law_1054 (by decide) hs4 rfl ?_
  refine Q_callVI (vs := [(0, (roC K 0 (Int.toNat (a3 + 1))))]) (st := [(0, r3)]) (pc' := 1058) dL_law_1055 l_RL_144 i108 (by decide) rfl rfl (Nat.le_of_ble_eq_true rfl) rfl hkc hks rfl ?_
  refine CI.mono h (fun c5 r6 h => ?_)
  by_cases hc7 : r3 = r6
  · have h := h.1 hc7
    refine R_eqS_ic (tgt := 1332) (pc' := 1061) dL_law_1058 (by decide) hc7 rfl ?_
    exact WP_wk (wk_e (wk_e (wk_e (wk_e wk_n)))) h
  · have h := h.2 hc7
    refine R_eqD_ic (tgt := 1332) (pc' := 1061) dL_law_1058 (by decide) hc7 h.1 rfl ?_
    have h := h.2
    refine R_iconst (pc' := 1062) dL_law_1061 rfl ?_
    exact R_zret dL_law_1062 rfl (nar_bool (Or.inl rfl)).1 hkc hks h
set_option maxRecDepth 100000 in
theorem s_L_law_1063 {K : SK} {d kc ks : Nat} {c : ct} {Q : hp → av → Prop} (hkc : kc ≤ mL_law.2.2.2.2.1) (hks : ks ≤ mL_law.2.2.2.2.2) (a3 : Int) (h : ((0 ≤ (a3 + 1) ∧ (a3 + 1) < (K.2.1 : Int))) ∧ ((0 ≤ (a3 + 2) ∧ (a3 + 2) < (K.2.1 : Int))) ∧ CI K d mX8_taken [(2, 0), (0, (roC K 0 (Int.toNat (a3 + 1)))), (0, (roC K 0 (Int.toNat (a3 + 2))))] c (fun c3 r4 => ((0 ≤ (a3 + 1) ∧ (a3 + 1) < (K.2.1 : Int))) ∧ ((0 ≤ (a3 + 2) ∧ (a3 + 2) < (K.2.1 : Int))) ∧ CI K d mX9_taken [(2, 108), (0, (roC K 0 (Int.toNat (a3 + 1)))), (0, (roC K 0 (Int.toNat (a3 + 2))))] c3 (fun c7 r8 => (r4 = r8 → WP K (d + 1) mL_law kc ks 1332 [(3, ((0 : Nat) : Int)), (2, 0), (2, 108), (0, a3)] [] (wG c7) Q) ∧ (¬ (r4 = r8) → (ir r4 ∧ ir r8) ∧ Q (wG c7) (0, 0))))) : WP K (d + 1) mL_law kc ks 1063 [(3, ((0 : Nat) : Int)), (2, 0), (2, 108), (0, a3)] [] (wG c) Q := by
  refine R_aload_n (pc' := 1064) dL_law_1063 rfl i0.1 rfl ?_
  refine R_aload_n3 (pc' := 1065) dL_law_1064 rfl rfl ?_
  refine R_iload_n (pc' := 1066) dL_law_1065 rfl rfl ?_
  refine R_iconst (pc' := 1067) dL_law_1066 rfl ?_
  refine R_iadd (pc' := 1068) dL_law_1067 rfl ?_
  have hs1 := h.1
  have h := h.2
  refine Q_roload (i := 0) (N := (K.2.1 : Int)) (pc' := 1069) rfl dL_law_1068 (by decide) hs1 rfl ?_
  refine R_aload_n3 (pc' := 1070) dL_law_1069 rfl rfl ?_
  refine R_iload_n (pc' := 1071) dL_law_1070 rfl rfl ?_
  refine R_iconst (pc' := 1072) dL_law_1071 rfl ?_
  refine R_iadd (pc' := 1073) dL_law_1072 rfl ?_
  have hs2 := h.1
  have h := h.2
  refine Q_roload (i := 0) (N := (K.2.1 : Int)) (pc' := 1074) rfl dL_law_1073 (by decide) hs2 rfl ?_
  refine Q_callVI (vs := [(0, (roC K 0 (Int.toNat (a3 + 1)))), (0, (roC K 0 (Int.toNat (a3 + 2))))]) (st := []) (pc' := 1077) dL_law_1074 l_RL_145 i0 (by decide) rfl rfl (Nat.le_of_ble_eq_true rfl) rfl hkc hks rfl ?_
  refine CI.mono h (fun c3 r4 h => ?_)
  refine R_aload_n (pc' := 1078) dL_law_1077 rfl i108.1 rfl ?_
  refine R_aload_n3 (pc' := 1079) dL_law_1078 rfl rfl ?_
  refine R_iload_n (pc' := 1080) dL_law_1079 rfl rfl ?_
  refine R_iconst (pc' := 1081) dL_law_1080 rfl ?_
  refine R_iadd (pc' := 1082) dL_law_1081 rfl ?_
  have hs5 := h.1
  have h := h.2
  refine Q_roload (i := 0) (N := (K.2.1 : Int)) (pc' := 1083) rfl dL_law_1082 (by decide) hs5 rfl ?_
  refine R_aload_n3 (pc' := 1084) dL_law_1083 rfl rfl ?_
  refine R_iload_n (pc' := 1085) dL_law_1084 rfl rfl ?_
  refine R_iconst (pc' := 1086) dL_law_1085 rfl ?_
  refine R_iadd (pc' := 1087) dL_law_1086 rfl ?_
  have hs6 := h.1
  have h := h.2
  refine Q_roload (i := 0) (N := (K.2.1 : Int)) (pc' := 1088) rfl dL_law_1087 (by decide) hs6 rfl ?_
  refine Q_callVI (vs := [(0, (roC K 0 (Int.toNat (a3 + 1)))), (0, (roC K 0 (Int.toNat (a3 + 2))))]) (st := [(0, r4)]) (pc' := 1091) dL_law_1088 l_RL_148 i108 (by decide) rfl rfl (Nat.le_of_ble_eq_true rfl) rfl hkc hks rfl ?_
  refine CI.mono h (fun c7 r8 h => ?_)
  by_cases hc9 : r4 = r8
  · have h := h.1 hc9
    refine R_eqS_ic (tgt := 1332) (pc' := 1094) dL_law_1091 (by decide) hc9 rfl ?_
    exact WP_wk (wk_e (wk_e (wk_e (wk_e wk_n)))) h
  · have h := h.2 hc9
    refine R_eqD_ic (tgt := 1332) (pc' := 1094) dL_law_1091 (by decide) hc9 h.1 rfl ?_
    have h := h.2
    refine R_iconst (pc' := 1095) dL_law_1094 rfl ?_
    exact R_zret dL_law_1095 rfl (nar_bool (Or.inl rfl)).1 hkc hks h
set_option maxRecDepth 100000 in
theorem s_L_law_1096 {K : SK} {d kc ks : Nat} {c : ct} {Q : hp → av → Prop} (hkc : kc ≤ mL_law.2.2.2.2.1) (hks : ks ≤ mL_law.2.2.2.2.2) (a3 : Int) (h : ((0 ≤ (a3 + 1) ∧ (a3 + 1) < (K.2.1 : Int))) ∧ CI K d mX8_count [(2, 0), (0, (roC K 0 (Int.toNat (a3 + 1))))] c (fun c2 r3 => ((0 ≤ (a3 + 1) ∧ (a3 + 1) < (K.2.1 : Int))) ∧ CI K d mX9_count [(2, 108), (0, (roC K 0 (Int.toNat (a3 + 1))))] c2 (fun c5 r6 => (r3 = r6 → WP K (d + 1) mL_law kc ks 1332 [(3, ((0 : Nat) : Int)), (2, 0), (2, 108), (0, a3)] [] (wG c5) Q) ∧ (¬ (r3 = r6) → (ir r3 ∧ ir r6) ∧ Q (wG c5) (0, 0))))) : WP K (d + 1) mL_law kc ks 1096 [(3, ((0 : Nat) : Int)), (2, 0), (2, 108), (0, a3)] [] (wG c) Q := by
  refine R_aload_n (pc' := 1097) dL_law_1096 rfl i0.1 rfl ?_
  refine R_aload_n3 (pc' := 1098) dL_law_1097 rfl rfl ?_
  refine R_iload_n (pc' := 1099) dL_law_1098 rfl rfl ?_
  refine R_iconst (pc' := 1100) dL_law_1099 rfl ?_
  refine R_iadd (pc' := 1101) dL_law_1100 rfl ?_
  have hs1 := h.1
  have h := h.2
  refine Q_roload (i := 0) (N := (K.2.1 : Int)) (pc' := 1102) rfl dL_law_1101 (by decide) hs1 rfl ?_
  refine Q_callVI (vs := [(0, (roC K 0 (Int.toNat (a3 + 1))))]) (st := []) (pc' := 1105) dL_law_1102 l_RL_149 i0 (by decide) rfl rfl (Nat.le_of_ble_eq_true rfl) rfl hkc hks rfl ?_
  refine CI.mono h (fun c2 r3 h => ?_)
  refine R_aload_n (pc' := 1106) dL_law_1105 rfl i108.1 rfl ?_
  refine R_aload_n3 (pc' := 1107) dL_law_1106 rfl rfl ?_
  refine R_iload_n (pc' := 1108) dL_law_1107 rfl rfl ?_
  refine R_iconst (pc' := 1109) dL_law_1108 rfl ?_
  refine R_iadd (pc' := 1110) dL_law_1109 rfl ?_
  have hs4 := h.1
  have h := h.2
  refine Q_roload (i := 0) (N := (K.2.1 : Int)) (pc' := 1111) rfl dL_law_1110 (by decide) hs4 rfl ?_
  refine Q_callVI (vs := [(0, (roC K 0 (Int.toNat (a3 + 1))))]) (st := [(0, r3)]) (pc' := 1114) dL_law_1111 l_RL_152 i108 (by decide) rfl rfl (Nat.le_of_ble_eq_true rfl) rfl hkc hks rfl ?_
  refine CI.mono h (fun c5 r6 h => ?_)
  by_cases hc7 : r3 = r6
  · have h := h.1 hc7
    refine R_eqS_ic (tgt := 1332) (pc' := 1117) dL_law_1114 (by decide) hc7 rfl ?_
    exact WP_wk (wk_e (wk_e (wk_e (wk_e wk_n)))) h
  · have h := h.2 hc7
    refine R_eqD_ic (tgt := 1332) (pc' := 1117) dL_law_1114 (by decide) hc7 h.1 rfl ?_
    have h := h.2
    refine R_iconst (pc' := 1118) dL_law_1117 rfl ?_
    exact R_zret dL_law_1118 rfl (nar_bool (Or.inl rfl)).1 hkc hks h
set_option maxRecDepth 100000 in
theorem s_L_law_1119 {K : SK} {d kc ks : Nat} {c : ct} {Q : hp → av → Prop} (hkc : kc ≤ mL_law.2.2.2.2.1) (hks : ks ≤ mL_law.2.2.2.2.2) (a3 : Int) (h : ((0 ≤ (a3 + 1) ∧ (a3 + 1) < (K.2.1 : Int))) ∧ ((0 ≤ (a3 + 2) ∧ (a3 + 2) < (K.2.1 : Int))) ∧ ((0 ≤ (a3 + 3) ∧ (a3 + 3) < (K.2.1 : Int))) ∧ CI K d mX8_tape [(2, 0), (0, (roC K 0 (Int.toNat (a3 + 1)))), (0, (roC K 0 (Int.toNat (a3 + 2)))), (0, (roC K 0 (Int.toNat (a3 + 3))))] c (fun c4 r5 => ((0 ≤ (a3 + 1) ∧ (a3 + 1) < (K.2.1 : Int))) ∧ ((0 ≤ (a3 + 2) ∧ (a3 + 2) < (K.2.1 : Int))) ∧ ((0 ≤ (a3 + 3) ∧ (a3 + 3) < (K.2.1 : Int))) ∧ CI K d mX9_tape [(2, 108), (0, (roC K 0 (Int.toNat (a3 + 1)))), (0, (roC K 0 (Int.toNat (a3 + 2)))), (0, (roC K 0 (Int.toNat (a3 + 3))))] c4 (fun c9 r10 => (r5 = r10 → WP K (d + 1) mL_law kc ks 1332 [(3, ((0 : Nat) : Int)), (2, 0), (2, 108), (0, a3)] [] (wG c9) Q) ∧ (¬ (r5 = r10) → (ir r5 ∧ ir r10) ∧ Q (wG c9) (0, 0))))) : WP K (d + 1) mL_law kc ks 1119 [(3, ((0 : Nat) : Int)), (2, 0), (2, 108), (0, a3)] [] (wG c) Q := by
  refine R_aload_n (pc' := 1120) dL_law_1119 rfl i0.1 rfl ?_
  refine R_aload_n3 (pc' := 1121) dL_law_1120 rfl rfl ?_
  refine R_iload_n (pc' := 1122) dL_law_1121 rfl rfl ?_
  refine R_iconst (pc' := 1123) dL_law_1122 rfl ?_
  refine R_iadd (pc' := 1124) dL_law_1123 rfl ?_
  have hs1 := h.1
  have h := h.2
  refine Q_roload (i := 0) (N := (K.2.1 : Int)) (pc' := 1125) rfl dL_law_1124 (by decide) hs1 rfl ?_
  refine R_aload_n3 (pc' := 1126) dL_law_1125 rfl rfl ?_
  refine R_iload_n (pc' := 1127) dL_law_1126 rfl rfl ?_
  refine R_iconst (pc' := 1128) dL_law_1127 rfl ?_
  refine R_iadd (pc' := 1129) dL_law_1128 rfl ?_
  have hs2 := h.1
  have h := h.2
  refine Q_roload (i := 0) (N := (K.2.1 : Int)) (pc' := 1130) rfl dL_law_1129 (by decide) hs2 rfl ?_
  refine R_aload_n3 (pc' := 1131) dL_law_1130 rfl rfl ?_
  refine R_iload_n (pc' := 1132) dL_law_1131 rfl rfl ?_
  refine R_iconst (pc' := 1133) dL_law_1132 rfl ?_
  refine R_iadd (pc' := 1134) dL_law_1133 rfl ?_
  have hs3 := h.1
  have h := h.2
  refine Q_roload (i := 0) (N := (K.2.1 : Int)) (pc' := 1135) rfl dL_law_1134 (by decide) hs3 rfl ?_
  refine Q_callVI (vs := [(0, (roC K 0 (Int.toNat (a3 + 1)))), (0, (roC K 0 (Int.toNat (a3 + 2)))), (0, (roC K 0 (Int.toNat (a3 + 3))))]) (st := []) (pc' := 1138) dL_law_1135 l_RL_153 i0 (by decide) rfl rfl (Nat.le_of_ble_eq_true rfl) rfl hkc hks rfl ?_
  refine CI.mono h (fun c4 r5 h => ?_)
  refine R_aload_n (pc' := 1139) dL_law_1138 rfl i108.1 rfl ?_
  refine R_aload_n3 (pc' := 1140) dL_law_1139 rfl rfl ?_
  refine R_iload_n (pc' := 1141) dL_law_1140 rfl rfl ?_
  refine R_iconst (pc' := 1142) dL_law_1141 rfl ?_
  refine R_iadd (pc' := 1143) dL_law_1142 rfl ?_
  have hs6 := h.1
  have h := h.2
  refine Q_roload (i := 0) (N := (K.2.1 : Int)) (pc' := 1144) rfl dL_law_1143 (by decide) hs6 rfl ?_
  refine R_aload_n3 (pc' := 1145) dL_law_1144 rfl rfl ?_
  refine R_iload_n (pc' := 1146) dL_law_1145 rfl rfl ?_
  refine R_iconst (pc' := 1147) dL_law_1146 rfl ?_
  refine R_iadd (pc' := 1148) dL_law_1147 rfl ?_
  have hs7 := h.1
  have h := h.2
  refine Q_roload (i := 0) (N := (K.2.1 : Int)) (pc' := 1149) rfl dL_law_1148 (by decide) hs7 rfl ?_
  refine R_aload_n3 (pc' := 1150) dL_law_1149 rfl rfl ?_
  refine R_iload_n (pc' := 1151) dL_law_1150 rfl rfl ?_
  refine R_iconst (pc' := 1152) dL_law_1151 rfl ?_
  refine R_iadd (pc' := 1153) dL_law_1152 rfl ?_
  have hs8 := h.1
  have h := h.2
  refine Q_roload (i := 0) (N := (K.2.1 : Int)) (pc' := 1154) rfl dL_law_1153 (by decide) hs8 rfl ?_
  refine Q_callVI (vs := [(0, (roC K 0 (Int.toNat (a3 + 1)))), (0, (roC K 0 (Int.toNat (a3 + 2)))), (0, (roC K 0 (Int.toNat (a3 + 3))))]) (st := [(0, r5)]) (pc' := 1157) dL_law_1154 l_RL_156 i108 (by decide) rfl rfl (Nat.le_of_ble_eq_true rfl) rfl hkc hks rfl ?_
  refine CI.mono h (fun c9 r10 h => ?_)
  by_cases hc11 : r5 = r10
  · have h := h.1 hc11
    refine R_eqS_ic (tgt := 1332) (pc' := 1160) dL_law_1157 (by decide) hc11 rfl ?_
    exact WP_wk (wk_e (wk_e (wk_e (wk_e wk_n)))) h
  · have h := h.2 hc11
    refine R_eqD_ic (tgt := 1332) (pc' := 1160) dL_law_1157 (by decide) hc11 h.1 rfl ?_
    have h := h.2
    refine R_iconst (pc' := 1161) dL_law_1160 rfl ?_
    exact R_zret dL_law_1161 rfl (nar_bool (Or.inl rfl)).1 hkc hks h
set_option maxRecDepth 100000 in
theorem s_L_law_1162 {K : SK} {d kc ks : Nat} {c : ct} {Q : hp → av → Prop} (hkc : kc ≤ mL_law.2.2.2.2.1) (hks : ks ≤ mL_law.2.2.2.2.2) (a3 : Int) (h : ((0 ≤ (a3 + 1) ∧ (a3 + 1) < (K.2.1 : Int))) ∧ ((0 ≤ (a3 + 2) ∧ (a3 + 2) < (K.2.1 : Int))) ∧ ((0 ≤ (a3 + 3) ∧ (a3 + 3) < (K.2.1 : Int))) ∧ (ir (roC K 0 (Int.toNat (a3 + 3)))) ∧ ((0 ≤ (a3 + 4) ∧ (a3 + 4) < (K.2.1 : Int))) ∧ (ir (roC K 0 (Int.toNat (a3 + 4)))) ∧ CI K d mX8_item [(2, 0), (0, (roC K 0 (Int.toNat (a3 + 1)))), (0, (roC K 0 (Int.toNat (a3 + 2)))), (1, (lOr (lShl (roC K 0 (Int.toNat (a3 + 3))) 32) (lAnd (roC K 0 (Int.toNat (a3 + 4))) 4294967295)))] c (fun c7 r8 => ((0 ≤ (a3 + 1) ∧ (a3 + 1) < (K.2.1 : Int))) ∧ ((0 ≤ (a3 + 2) ∧ (a3 + 2) < (K.2.1 : Int))) ∧ ((0 ≤ (a3 + 3) ∧ (a3 + 3) < (K.2.1 : Int))) ∧ (ir (roC K 0 (Int.toNat (a3 + 3)))) ∧ ((0 ≤ (a3 + 4) ∧ (a3 + 4) < (K.2.1 : Int))) ∧ (ir (roC K 0 (Int.toNat (a3 + 4)))) ∧ CI K d mX9_item [(2, 108), (0, (roC K 0 (Int.toNat (a3 + 1)))), (0, (roC K 0 (Int.toNat (a3 + 2)))), (1, (lOr (lShl (roC K 0 (Int.toNat (a3 + 3))) 32) (lAnd (roC K 0 (Int.toNat (a3 + 4))) 4294967295)))] c7 (fun c15 r16 => (r8 = r16 → WP K (d + 1) mL_law kc ks 1332 [(3, ((0 : Nat) : Int)), (2, 0), (2, 108), (0, a3)] [] (wG c15) Q) ∧ (¬ (r8 = r16) → (ir r8 ∧ ir r16) ∧ Q (wG c15) (0, 0))))) : WP K (d + 1) mL_law kc ks 1162 [(3, ((0 : Nat) : Int)), (2, 0), (2, 108), (0, a3)] [] (wG c) Q := by
  refine R_aload_n (pc' := 1163) dL_law_1162 rfl i0.1 rfl ?_
  refine R_aload_n3 (pc' := 1164) dL_law_1163 rfl rfl ?_
  refine R_iload_n (pc' := 1165) dL_law_1164 rfl rfl ?_
  refine R_iconst (pc' := 1166) dL_law_1165 rfl ?_
  refine R_iadd (pc' := 1167) dL_law_1166 rfl ?_
  have hs1 := h.1
  have h := h.2
  refine Q_roload (i := 0) (N := (K.2.1 : Int)) (pc' := 1168) rfl dL_law_1167 (by decide) hs1 rfl ?_
  refine R_aload_n3 (pc' := 1169) dL_law_1168 rfl rfl ?_
  refine R_iload_n (pc' := 1170) dL_law_1169 rfl rfl ?_
  refine R_iconst (pc' := 1171) dL_law_1170 rfl ?_
  refine R_iadd (pc' := 1172) dL_law_1171 rfl ?_
  have hs2 := h.1
  have h := h.2
  refine Q_roload (i := 0) (N := (K.2.1 : Int)) (pc' := 1173) rfl dL_law_1172 (by decide) hs2 rfl ?_
  refine R_aload_n3 (pc' := 1174) dL_law_1173 rfl rfl ?_
  refine R_iload_n (pc' := 1175) dL_law_1174 rfl rfl ?_
  refine R_iconst (pc' := 1176) dL_law_1175 rfl ?_
  refine R_iadd (pc' := 1177) dL_law_1176 rfl ?_
  have hs3 := h.1
  have h := h.2
  refine Q_roload (i := 0) (N := (K.2.1 : Int)) (pc' := 1178) rfl dL_law_1177 (by decide) hs3 rfl ?_
  have hs4 := h.1
  have h := h.2
  refine R_i2l (pc' := 1179) dL_law_1178 hs4 rfl ?_
  refine R_bipush (pc' := 1181) dL_law_1179 (by decide) rfl ?_
  refine R_lshl (pc' := 1182) dL_law_1181 rfl ?_
  refine R_aload_n3 (pc' := 1183) dL_law_1182 rfl rfl ?_
  refine R_iload_n (pc' := 1184) dL_law_1183 rfl rfl ?_
  refine R_iconst (pc' := 1185) dL_law_1184 rfl ?_
  refine R_iadd (pc' := 1186) dL_law_1185 rfl ?_
  have hs5 := h.1
  have h := h.2
  refine Q_roload (i := 0) (N := (K.2.1 : Int)) (pc' := 1187) rfl dL_law_1186 (by decide) hs5 rfl ?_
  have hs6 := h.1
  have h := h.2
  refine R_i2l (pc' := 1188) dL_law_1187 hs6 rfl ?_
  refine R_ldc2 (x := 4294967295) (pc' := 1191) dL_law_1188 l_RL_157 (by decide) rfl ?_
  refine R_land (pc' := 1192) dL_law_1191 rfl ?_
  refine R_lor (pc' := 1193) dL_law_1192 rfl ?_
  refine Q_callVI (vs := [(0, (roC K 0 (Int.toNat (a3 + 1)))), (0, (roC K 0 (Int.toNat (a3 + 2)))), (1, (lOr (lShl (roC K 0 (Int.toNat (a3 + 3))) 32) (lAnd (roC K 0 (Int.toNat (a3 + 4))) 4294967295)))]) (st := []) (pc' := 1196) dL_law_1193 l_RL_159 i0 (by decide) rfl rfl (Nat.le_of_ble_eq_true rfl) rfl hkc hks rfl ?_
  refine CI.mono h (fun c7 r8 h => ?_)
  refine R_aload_n (pc' := 1197) dL_law_1196 rfl i108.1 rfl ?_
  refine R_aload_n3 (pc' := 1198) dL_law_1197 rfl rfl ?_
  refine R_iload_n (pc' := 1199) dL_law_1198 rfl rfl ?_
  refine R_iconst (pc' := 1200) dL_law_1199 rfl ?_
  refine R_iadd (pc' := 1201) dL_law_1200 rfl ?_
  have hs9 := h.1
  have h := h.2
  refine Q_roload (i := 0) (N := (K.2.1 : Int)) (pc' := 1202) rfl dL_law_1201 (by decide) hs9 rfl ?_
  refine R_aload_n3 (pc' := 1203) dL_law_1202 rfl rfl ?_
  refine R_iload_n (pc' := 1204) dL_law_1203 rfl rfl ?_
  refine R_iconst (pc' := 1205) dL_law_1204 rfl ?_
  refine R_iadd (pc' := 1206) dL_law_1205 rfl ?_
  have hs10 := h.1
  have h := h.2
  refine Q_roload (i := 0) (N := (K.2.1 : Int)) (pc' := 1207) rfl dL_law_1206 (by decide) hs10 rfl ?_
  refine R_aload_n3 (pc' := 1208) dL_law_1207 rfl rfl ?_
  refine R_iload_n (pc' := 1209) dL_law_1208 rfl rfl ?_
  refine R_iconst (pc' := 1210) dL_law_1209 rfl ?_
  refine R_iadd (pc' := 1211) dL_law_1210 rfl ?_
  have hs11 := h.1
  have h := h.2
  refine Q_roload (i := 0) (N := (K.2.1 : Int)) (pc' := 1212) rfl dL_law_1211 (by decide) hs11 rfl ?_
  have hs12 := h.1
  have h := h.2
  refine R_i2l (pc' := 1213) dL_law_1212 hs12 rfl ?_
  refine R_bipush (pc' := 1215) dL_law_1213 (by decide) rfl ?_
  refine R_lshl (pc' := 1216) dL_law_1215 rfl ?_
  refine R_aload_n3 (pc' := 1217) dL_law_1216 rfl rfl ?_
  refine R_iload_n (pc' := 1218) dL_law_1217 rfl rfl ?_
  refine R_iconst (pc' := 1219) dL_law_1218 rfl ?_
  refine R_iadd (pc' := 1220) dL_law_1219 rfl ?_
  have hs13 := h.1
  have h := h.2
  refine Q_roload (i := 0) (N := (K.2.1 : Int)) (pc' := 1221) rfl dL_law_1220 (by decide) hs13 rfl ?_
  have hs14 := h.1
  have h := h.2
  refine R_i2l (pc' := 1222) dL_law_1221 hs14 rfl ?_
  refine R_ldc2 (x := 4294967295) (pc' := 1225) dL_law_1222 l_RL_157 (by decide) rfl ?_
  refine R_land (pc' := 1226) dL_law_1225 rfl ?_
  refine R_lor (pc' := 1227) dL_law_1226 rfl ?_
  refine Q_callVI (vs := [(0, (roC K 0 (Int.toNat (a3 + 1)))), (0, (roC K 0 (Int.toNat (a3 + 2)))), (1, (lOr (lShl (roC K 0 (Int.toNat (a3 + 3))) 32) (lAnd (roC K 0 (Int.toNat (a3 + 4))) 4294967295)))]) (st := [(0, r8)]) (pc' := 1230) dL_law_1227 l_RL_163 i108 (by decide) rfl rfl (Nat.le_of_ble_eq_true rfl) rfl hkc hks rfl ?_
  refine CI.mono h (fun c15 r16 h => ?_)
  by_cases hc17 : r8 = r16
  · have h := h.1 hc17
    refine R_eqS_ic (tgt := 1332) (pc' := 1233) dL_law_1230 (by decide) hc17 rfl ?_
    exact WP_wk (wk_e (wk_e (wk_e (wk_e wk_n)))) h
  · have h := h.2 hc17
    refine R_eqD_ic (tgt := 1332) (pc' := 1233) dL_law_1230 (by decide) hc17 h.1 rfl ?_
    have h := h.2
    refine R_iconst (pc' := 1234) dL_law_1233 rfl ?_
    exact R_zret dL_law_1234 rfl (nar_bool (Or.inl rfl)).1 hkc hks h
set_option maxRecDepth 100000 in
theorem s_L_law_1235 {K : SK} {d kc ks : Nat} {c : ct} {Q : hp → av → Prop} (hkc : kc ≤ mL_law.2.2.2.2.1) (hks : ks ≤ mL_law.2.2.2.2.2) (a3 : Int) (h : ((0 ≤ (a3 + 1) ∧ (a3 + 1) < (K.2.1 : Int))) ∧ ((0 ≤ (a3 + 2) ∧ (a3 + 2) < (K.2.1 : Int))) ∧ CL K d mX8_read [(2, 0), (0, (roC K 0 (Int.toNat (a3 + 1)))), (0, (roC K 0 (Int.toNat (a3 + 2))))] c (fun c3 r4 => ((0 ≤ (a3 + 1) ∧ (a3 + 1) < (K.2.1 : Int))) ∧ ((0 ≤ (a3 + 2) ∧ (a3 + 2) < (K.2.1 : Int))) ∧ CL K d mX9_read [(2, 108), (0, (roC K 0 (Int.toNat (a3 + 1)))), (0, (roC K 0 (Int.toNat (a3 + 2))))] c3 (fun c7 r8 => (r4 = r8 → WP K (d + 1) mL_law kc ks 1332 [(3, ((0 : Nat) : Int)), (2, 0), (2, 108), (0, a3)] [] (wG c7) Q) ∧ (¬ (r4 = r8) → (il r4 ∧ il r8) ∧ ∀ z9 : Int, z9 = (if r8 < r4 then 1 else -1) → (z9 = 0 → WP K (d + 1) mL_law kc ks 1332 [(3, ((0 : Nat) : Int)), (2, 0), (2, 108), (0, a3)] [] (wG c7) Q) ∧ (¬ (z9 = 0) → ir z9 ∧ Q (wG c7) (0, 0)))))) : WP K (d + 1) mL_law kc ks 1235 [(3, ((0 : Nat) : Int)), (2, 0), (2, 108), (0, a3)] [] (wG c) Q := by
  refine R_aload_n (pc' := 1236) dL_law_1235 rfl i0.1 rfl ?_
  refine R_aload_n3 (pc' := 1237) dL_law_1236 rfl rfl ?_
  refine R_iload_n (pc' := 1238) dL_law_1237 rfl rfl ?_
  refine R_iconst (pc' := 1239) dL_law_1238 rfl ?_
  refine R_iadd (pc' := 1240) dL_law_1239 rfl ?_
  have hs1 := h.1
  have h := h.2
  refine Q_roload (i := 0) (N := (K.2.1 : Int)) (pc' := 1241) rfl dL_law_1240 (by decide) hs1 rfl ?_
  refine R_aload_n3 (pc' := 1242) dL_law_1241 rfl rfl ?_
  refine R_iload_n (pc' := 1243) dL_law_1242 rfl rfl ?_
  refine R_iconst (pc' := 1244) dL_law_1243 rfl ?_
  refine R_iadd (pc' := 1245) dL_law_1244 rfl ?_
  have hs2 := h.1
  have h := h.2
  refine Q_roload (i := 0) (N := (K.2.1 : Int)) (pc' := 1246) rfl dL_law_1245 (by decide) hs2 rfl ?_
  refine Q_callVL (vs := [(0, (roC K 0 (Int.toNat (a3 + 1)))), (0, (roC K 0 (Int.toNat (a3 + 2))))]) (st := []) (pc' := 1249) dL_law_1246 l_RL_164 i0 (by decide) rfl rfl (Nat.le_of_ble_eq_true rfl) rfl hkc hks rfl ?_
  refine CL.mono h (fun c3 r4 h => ?_)
  refine R_aload_n (pc' := 1250) dL_law_1249 rfl i108.1 rfl ?_
  refine R_aload_n3 (pc' := 1251) dL_law_1250 rfl rfl ?_
  refine R_iload_n (pc' := 1252) dL_law_1251 rfl rfl ?_
  refine R_iconst (pc' := 1253) dL_law_1252 rfl ?_
  refine R_iadd (pc' := 1254) dL_law_1253 rfl ?_
  have hs5 := h.1
  have h := h.2
  refine Q_roload (i := 0) (N := (K.2.1 : Int)) (pc' := 1255) rfl dL_law_1254 (by decide) hs5 rfl ?_
  refine R_aload_n3 (pc' := 1256) dL_law_1255 rfl rfl ?_
  refine R_iload_n (pc' := 1257) dL_law_1256 rfl rfl ?_
  refine R_iconst (pc' := 1258) dL_law_1257 rfl ?_
  refine R_iadd (pc' := 1259) dL_law_1258 rfl ?_
  have hs6 := h.1
  have h := h.2
  refine Q_roload (i := 0) (N := (K.2.1 : Int)) (pc' := 1260) rfl dL_law_1259 (by decide) hs6 rfl ?_
  refine Q_callVL (vs := [(0, (roC K 0 (Int.toNat (a3 + 1)))), (0, (roC K 0 (Int.toNat (a3 + 2))))]) (st := [(1, r4)]) (pc' := 1263) dL_law_1260 l_RL_167 i108 (by decide) rfl rfl (Nat.le_of_ble_eq_true rfl) rfl hkc hks rfl ?_
  refine CL.mono h (fun c7 r8 h => ?_)
  by_cases hq11 : r4 = r8
  · have h := h.1 hq11
    refine R_lcmp_eq (pc' := 1264) dL_law_1263 hq11 rfl ?_
    refine R_eqS_if (tgt := 1332) (pc' := 1267) dL_law_1264 (by decide) rfl rfl ?_
    exact WP_wk (wk_e (wk_e (wk_e (wk_e wk_n)))) h
  · have h := h.2 hq11
    refine R_lcmp_ne (pc' := 1264) dL_law_1263 h.1.1 h.1.2 hq11 rfl rfl ?_
    have h := h.2 _ rfl
    generalize (if r8 < r4 then (1 : Int) else -1) = z9 at h ⊢
    by_cases hc10 : z9 = 0
    · have h := h.1 hc10
      refine R_eqS_if (tgt := 1332) (pc' := 1267) dL_law_1264 (by decide) hc10 rfl ?_
      exact WP_wk (wk_e (wk_e (wk_e (wk_e wk_n)))) h
    · have h := h.2 hc10
      refine R_eqD_if (tgt := 1332) (pc' := 1267) dL_law_1264 (by decide) hc10 h.1 rfl ?_
      have h := h.2
      refine R_iconst (pc' := 1268) dL_law_1267 rfl ?_
      exact R_zret dL_law_1268 rfl (nar_bool (Or.inl rfl)).1 hkc hks h
set_option maxRecDepth 100000 in
theorem s_L_law_1269 {K : SK} {d kc ks : Nat} {c : ct} {Q : hp → av → Prop} (hkc : kc ≤ mL_law.2.2.2.2.1) (hks : ks ≤ mL_law.2.2.2.2.2) (a3 : Int) (h : ((0 ≤ (a3 + 1) ∧ (a3 + 1) < (K.2.1 : Int))) ∧ ((0 ≤ (a3 + 2) ∧ (a3 + 2) < (K.2.1 : Int))) ∧ ((0 ≤ (a3 + 3) ∧ (a3 + 3) < (K.2.1 : Int))) ∧ ((0 ≤ (a3 + 4) ∧ (a3 + 4) < (K.2.1 : Int))) ∧ ((0 ≤ (a3 + 5) ∧ (a3 + 5) < (K.2.1 : Int))) ∧ CI K d mX8_shift [(2, 0), (0, (roC K 0 (Int.toNat (a3 + 1)))), (0, (roC K 0 (Int.toNat (a3 + 2)))), (0, (roC K 0 (Int.toNat (a3 + 3)))), (0, (roC K 0 (Int.toNat (a3 + 4)))), (0, (roC K 0 (Int.toNat (a3 + 5))))] c (fun c6 r7 => ((0 ≤ (a3 + 1) ∧ (a3 + 1) < (K.2.1 : Int))) ∧ ((0 ≤ (a3 + 2) ∧ (a3 + 2) < (K.2.1 : Int))) ∧ ((0 ≤ (a3 + 3) ∧ (a3 + 3) < (K.2.1 : Int))) ∧ ((0 ≤ (a3 + 4) ∧ (a3 + 4) < (K.2.1 : Int))) ∧ ((0 ≤ (a3 + 5) ∧ (a3 + 5) < (K.2.1 : Int))) ∧ CI K d mX9_shift [(2, 108), (0, (roC K 0 (Int.toNat (a3 + 1)))), (0, (roC K 0 (Int.toNat (a3 + 2)))), (0, (roC K 0 (Int.toNat (a3 + 3)))), (0, (roC K 0 (Int.toNat (a3 + 4)))), (0, (roC K 0 (Int.toNat (a3 + 5))))] c6 (fun c13 r14 => (r7 = r14 → WP K (d + 1) mL_law kc ks 1332 [(3, ((0 : Nat) : Int)), (2, 0), (2, 108), (0, a3)] [] (wG c13) Q) ∧ (¬ (r7 = r14) → (ir r7 ∧ ir r14) ∧ Q (wG c13) (0, 0))))) : WP K (d + 1) mL_law kc ks 1269 [(3, ((0 : Nat) : Int)), (2, 0), (2, 108), (0, a3)] [] (wG c) Q := by
  refine R_aload_n (pc' := 1270) dL_law_1269 rfl i0.1 rfl ?_
  refine R_aload_n3 (pc' := 1271) dL_law_1270 rfl rfl ?_
  refine R_iload_n (pc' := 1272) dL_law_1271 rfl rfl ?_
  refine R_iconst (pc' := 1273) dL_law_1272 rfl ?_
  refine R_iadd (pc' := 1274) dL_law_1273 rfl ?_
  have hs1 := h.1
  have h := h.2
  refine Q_roload (i := 0) (N := (K.2.1 : Int)) (pc' := 1275) rfl dL_law_1274 (by decide) hs1 rfl ?_
  refine R_aload_n3 (pc' := 1276) dL_law_1275 rfl rfl ?_
  refine R_iload_n (pc' := 1277) dL_law_1276 rfl rfl ?_
  refine R_iconst (pc' := 1278) dL_law_1277 rfl ?_
  refine R_iadd (pc' := 1279) dL_law_1278 rfl ?_
  have hs2 := h.1
  have h := h.2
  refine Q_roload (i := 0) (N := (K.2.1 : Int)) (pc' := 1280) rfl dL_law_1279 (by decide) hs2 rfl ?_
  refine R_aload_n3 (pc' := 1281) dL_law_1280 rfl rfl ?_
  refine R_iload_n (pc' := 1282) dL_law_1281 rfl rfl ?_
  refine R_iconst (pc' := 1283) dL_law_1282 rfl ?_
  refine R_iadd (pc' := 1284) dL_law_1283 rfl ?_
  have hs3 := h.1
  have h := h.2
  refine Q_roload (i := 0) (N := (K.2.1 : Int)) (pc' := 1285) rfl dL_law_1284 (by decide) hs3 rfl ?_
  refine R_aload_n3 (pc' := 1286) dL_law_1285 rfl rfl ?_
  refine R_iload_n (pc' := 1287) dL_law_1286 rfl rfl ?_
  refine R_iconst (pc' := 1288) dL_law_1287 rfl ?_
  refine R_iadd (pc' := 1289) dL_law_1288 rfl ?_
  have hs4 := h.1
  have h := h.2
  refine Q_roload (i := 0) (N := (K.2.1 : Int)) (pc' := 1290) rfl dL_law_1289 (by decide) hs4 rfl ?_
  refine R_aload_n3 (pc' := 1291) dL_law_1290 rfl rfl ?_
  refine R_iload_n (pc' := 1292) dL_law_1291 rfl rfl ?_
  refine R_iconst (pc' := 1293) dL_law_1292 rfl ?_
  refine R_iadd (pc' := 1294) dL_law_1293 rfl ?_
  have hs5 := h.1
  have h := h.2
  refine Q_roload (i := 0) (N := (K.2.1 : Int)) (pc' := 1295) rfl dL_law_1294 (by decide) hs5 rfl ?_
  refine Q_callVI (vs := [(0, (roC K 0 (Int.toNat (a3 + 1)))), (0, (roC K 0 (Int.toNat (a3 + 2)))), (0, (roC K 0 (Int.toNat (a3 + 3)))), (0, (roC K 0 (Int.toNat (a3 + 4)))), (0, (roC K 0 (Int.toNat (a3 + 5))))]) (st := []) (pc' := 1298) dL_law_1295 l_RL_168 i0 (by decide) rfl rfl (Nat.le_of_ble_eq_true rfl) rfl hkc hks rfl ?_
  refine CI.mono h (fun c6 r7 h => ?_)
  refine R_aload_n (pc' := 1299) dL_law_1298 rfl i108.1 rfl ?_
  refine R_aload_n3 (pc' := 1300) dL_law_1299 rfl rfl ?_
  refine R_iload_n (pc' := 1301) dL_law_1300 rfl rfl ?_
  refine R_iconst (pc' := 1302) dL_law_1301 rfl ?_
  refine R_iadd (pc' := 1303) dL_law_1302 rfl ?_
  have hs8 := h.1
  have h := h.2
  refine Q_roload (i := 0) (N := (K.2.1 : Int)) (pc' := 1304) rfl dL_law_1303 (by decide) hs8 rfl ?_
  refine R_aload_n3 (pc' := 1305) dL_law_1304 rfl rfl ?_
  refine R_iload_n (pc' := 1306) dL_law_1305 rfl rfl ?_
  refine R_iconst (pc' := 1307) dL_law_1306 rfl ?_
  refine R_iadd (pc' := 1308) dL_law_1307 rfl ?_
  have hs9 := h.1
  have h := h.2
  refine Q_roload (i := 0) (N := (K.2.1 : Int)) (pc' := 1309) rfl dL_law_1308 (by decide) hs9 rfl ?_
  refine R_aload_n3 (pc' := 1310) dL_law_1309 rfl rfl ?_
  refine R_iload_n (pc' := 1311) dL_law_1310 rfl rfl ?_
  refine R_iconst (pc' := 1312) dL_law_1311 rfl ?_
  refine R_iadd (pc' := 1313) dL_law_1312 rfl ?_
  have hs10 := h.1
  have h := h.2
  refine Q_roload (i := 0) (N := (K.2.1 : Int)) (pc' := 1314) rfl dL_law_1313 (by decide) hs10 rfl ?_
  refine R_aload_n3 (pc' := 1315) dL_law_1314 rfl rfl ?_
  refine R_iload_n (pc' := 1316) dL_law_1315 rfl rfl ?_
  refine R_iconst (pc' := 1317) dL_law_1316 rfl ?_
  refine R_iadd (pc' := 1318) dL_law_1317 rfl ?_
  have hs11 := h.1
  have h := h.2
  refine Q_roload (i := 0) (N := (K.2.1 : Int)) (pc' := 1319) rfl dL_law_1318 (by decide) hs11 rfl ?_
  refine R_aload_n3 (pc' := 1320) dL_law_1319 rfl rfl ?_
  refine R_iload_n (pc' := 1321) dL_law_1320 rfl rfl ?_
  refine R_iconst (pc' := 1322) dL_law_1321 rfl ?_
  refine R_iadd (pc' := 1323) dL_law_1322 rfl ?_
  have hs12 := h.1
  have h := h.2
  refine Q_roload (i := 0) (N := (K.2.1 : Int)) (pc' := 1324) rfl dL_law_1323 (by decide) hs12 rfl ?_
  refine Q_callVI (vs := [(0, (roC K 0 (Int.toNat (a3 + 1)))), (0, (roC K 0 (Int.toNat (a3 + 2)))), (0, (roC K 0 (Int.toNat (a3 + 3)))), (0, (roC K 0 (Int.toNat (a3 + 4)))), (0, (roC K 0 (Int.toNat (a3 + 5))))]) (st := [(0, r7)]) (pc' := 1327) dL_law_1324 l_RL_172 i108 (by decide) rfl rfl (Nat.le_of_ble_eq_true rfl) rfl hkc hks rfl ?_
  refine CI.mono h (fun c13 r14 h => ?_)
  by_cases hc15 : r7 = r14
  · have h := h.1 hc15
    refine R_eqS_ic (tgt := 1332) (pc' := 1330) dL_law_1327 (by decide) hc15 rfl ?_
    exact WP_wk (wk_e (wk_e (wk_e (wk_e wk_n)))) h
  · have h := h.2 hc15
    refine R_eqD_ic (tgt := 1332) (pc' := 1330) dL_law_1327 (by decide) hc15 h.1 rfl ?_
    have h := h.2
    refine R_iconst (pc' := 1331) dL_law_1330 rfl ?_
    exact R_zret dL_law_1331 rfl (nar_bool (Or.inl rfl)).1 hkc hks h
set_option maxRecDepth 100000 in
theorem s_L_law_1332 {K : SK} {d kc ks : Nat} {c : ct} {Q : hp → av → Prop} (hkc : kc ≤ mL_law.2.2.2.2.1) (hks : ks ≤ mL_law.2.2.2.2.2) (a3 : Int) (h : WP K (d + 1) mL_law kc ks 18 [(3, ((0 : Nat) : Int)), (2, 0), (2, 108), (0, (a3 + 6))] [] (wG c) Q) : WP K (d + 1) mL_law kc ks 1332 [(3, ((0 : Nat) : Int)), (2, 0), (2, 108), (0, a3)] [] (wG c) Q := by
  refine R_iinc (L' := [_, _, _, _]) (pc' := 1335) dL_law_1332 rfl (by decide) rfl rfl rfl ?_
  refine R_goto (tgt := 18) dL_law_1335 (by decide) ?_
  exact WP_wk (wk_e (wk_e (wk_e (wk_e wk_n)))) h
