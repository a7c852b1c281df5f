/-! RULES over the heap -/
def isC (G : hp) (x : Int) (kd len : Nat) : Prop := 0 ≤ x ∧ x < G.1 ∧ G.2.1 x.toNat = (kd, len)
def hup (G : hp) (k j x : Int) : hp := (G.1, G.2.1, up2 G.2.2 k j x)
theorem isC.k {G : hp} {x : Int} {kd len : Nat} (h : isC G x kd len) : x.toNat < G.1 := by obtain ⟨h0, h1, -⟩ := h; omega
theorem isC.c {G : hp} {x : Int} {kd len : Nat} (h : isC G x kd len) : (x.toNat : Int) = x := by obtain ⟨h0, h1, -⟩ := h; omega
theorem cv_ref {ad ros : Nat → Nat} {fm : Value} {x : Int} (h0 : 0 ≤ x) : cv ad ros fm (2, x) = .ref (ad x.toNat) := by simp only [cv, cr, if_neg (Int.not_lt.mpr h0), va_rf]
theorem fld_in0 : ∀ w ∈ u_ws RX0 TX0 5, w ∈ lw_tbl ∧ goodWord w = true := by decide +kernel
theorem fld_in1 : ∀ w ∈ u_ws RX1 TX1 4, w ∈ lw_tbl ∧ goodWord w = true := by decide +kernel
theorem fld_in2 : ∀ w ∈ u_ws RX2 TX2 8, w ∈ lw_tbl ∧ goodWord w = true := by decide +kernel
theorem fld_in3 : ∀ w ∈ u_ws RX3 TX3 6, w ∈ lw_tbl ∧ goodWord w = true := by decide +kernel
theorem fld_in4 : ∀ w ∈ u_ws RX4 TX4 5, w ∈ lw_tbl ∧ goodWord w = true := by decide +kernel
theorem fld_in5 : ∀ w ∈ u_ws RX5 TX5 5, w ∈ lw_tbl ∧ goodWord w = true := by decide +kernel
theorem fld_in6 : ∀ w ∈ u_ws RX6 TX6 14, w ∈ lw_tbl ∧ goodWord w = true := by decide +kernel
theorem fld_in7 : ∀ w ∈ u_ws RX7 TX7 3, w ∈ lw_tbl ∧ goodWord w = true := by decide +kernel
theorem fld_in8 : ∀ w ∈ u_ws RX8 TX8 12, w ∈ lw_tbl ∧ goodWord w = true := by decide +kernel
theorem fld_in9 : ∀ w ∈ u_ws RX9 TX9 78, w ∈ lw_tbl ∧ goodWord w = true := by decide +kernel
theorem fld_in : ∀ ci, ci < 10 → ∀ w ∈ u_ws (clsN ci) (fldN ci) (nflds ci), w ∈ wsA
  | 0, _ => fun w h => List.mem_filter.mpr (fld_in0 w h)
  | 1, _ => fun w h => List.mem_filter.mpr (fld_in1 w h)
  | 2, _ => fun w h => List.mem_filter.mpr (fld_in2 w h)
  | 3, _ => fun w h => List.mem_filter.mpr (fld_in3 w h)
  | 4, _ => fun w h => List.mem_filter.mpr (fld_in4 w h)
  | 5, _ => fun w h => List.mem_filter.mpr (fld_in5 w h)
  | 6, _ => fun w h => List.mem_filter.mpr (fld_in6 w h)
  | 7, _ => fun w h => List.mem_filter.mpr (fld_in7 w h)
  | 8, _ => fun w h => List.mem_filter.mpr (fld_in8 w h)
  | 9, _ => fun w h => List.mem_filter.mpr (fld_in9 w h)
  | k + 10, h => absurd h (by omega)
theorem fld_ty : ∀ ci, ci < 10 → ∀ k, k < nflds ci → parseFieldDescriptor (fldN ci k).2.2.1 = some (fldT ci k)
  | 0, _ => tyX0_ok | 1, _ => tyX1_ok | 2, _ => tyX2_ok | 3, _ => tyX3_ok | 4, _ => tyX4_ok | 5, _ => tyX5_ok | 6, _ => tyX6_ok | 7, _ => tyX7_ok | 8, _ => tyX8_ok | 9, _ => tyX9_ok
  | k + 10, h => absurd h (by omega)
theorem fld_nm : ∀ ci, ci < 10 → ∀ a, a < nflds ci → ∀ b, b < nflds ci → a ≠ b → (fldN ci a).2.1 ≠ (fldN ci b).2.1
  | 0, _ => nmX0 | 1, _ => nmX1 | 2, _ => nmX2 | 3, _ => nmX3 | 4, _ => nmX4 | 5, _ => nmX5 | 6, _ => nmX6 | 7, _ => nmX7 | 8, _ => nmX8 | 9, _ => nmX9
  | k + 10, h => absurd h (by omega)
theorem ent_obj {ad : Nat → Nat} {cA : Nat → ClassId} {G : hp} {x : Int} {ci len : Nat} (h : isC G x ci len) (h10 : ci < 10) : (wl ad cA G)[x.toNat]? = some (ad x.toNat, .inr (ci, (List.range (nflds ci)).map (fun j => cf ad (fldT ci j) (G.2.2 x j)))) := by
  rw [wl_get ad cA G h.k, h.2.2]
  simp only [ent, h10, if_true, h.c]
theorem ent_i {ad : Nat → Nat} {cA : Nat → ClassId} {G : hp} {x : Int} {kd len : Nat} (h : isC G x kd len) (h1 : 10 ≤ kd ∧ kd < 13) : (wl ad cA G)[x.toNat]? = some (ad x.toNat, .inl (cA kd, len, .inl (fun j : Nat => Int32.ofInt (G.2.2 x j)))) := by
  have h2 : ¬ kd < 10 := by omega
  rw [wl_get ad cA G h.k, h.2.2]
  simp only [ent, h2, h1.2, if_true, if_false, h.c]
theorem ent_l {ad : Nat → Nat} {cA : Nat → ClassId} {G : hp} {x : Int} {len : Nat} (h : isC G x 13 len) : (wl ad cA G)[x.toNat]? = some (ad x.toNat, .inl (cA 13, len, .inr (.inl (fun j : Nat => Int64.ofInt (G.2.2 x j))))) := by
  rw [wl_get ad cA G h.k, h.2.2]
  simp [ent, h.c]
theorem ent_r {ad : Nat → Nat} {cA : Nat → ClassId} {G : hp} {x : Int} {kd len : Nat} (h : isC G x kd len) (h1 : 14 ≤ kd) : (wl ad cA G)[x.toNat]? = some (ad x.toNat, .inl (cA kd, len, .inr (.inr (.inr (.inr (fun j : Nat => cr ad (G.2.2 x j))))))) := by
  have h2 : ¬ kd < 10 := by omega
  have h3 : ¬ kd < 13 := by omega
  have h4 : ¬ kd = 13 := by omega
  rw [wl_get ad cA G h.k, h.2.2]
  simp only [ent, h2, h3, h4, if_false, h.c]
def kF (own : String) (idx ci j : Nat) : Prop := Cond.fieldLink own idx (fldN ci j).1 (fldN ci j).2.1 (fldN ci j).2.2.1 ∈ wsA
def kFN (own : String) (idx ci j : Nat) : Prop := ∃ host, Cond.fieldLinkNest own idx (fldN ci j).1 (fldN ci j).2.1 (fldN ci j).2.2.1 host ∈ nestW
theorem up2_nat {c : Int → Int → Int} {x i v : Int} {k j : Nat} (hk : (k : Int) = x) (hj : (j : Int) = i) : up2 c k j v = up2 c x i v := by rw [hk, hj]
theorem nar_ref {ty : FieldType} {ad : Nat → Nat} {x : Int} (h : isRefT ty = true) : narrow ty (va_rf (cr ad x)) = va_rf (cr ad x) ∧ fits ty (va_rf (cr ad x)) = true := by
  cases ty <;> first | (cases h; done) | (unfold cr; split <;> exact ⟨rfl, rfl⟩)
theorem nar_bool {x : Int} (h : x = 0 ∨ x = 1) : narrow .boolean (.int (Int32.ofInt x)) = .int (Int32.ofInt x) ∧ fits .boolean (.int (Int32.ofInt x)) = true := by
  rcases h with rfl | rfl <;> exact ⟨by decide, by decide⟩
theorem nar_byte {x : Int} (h : -128 ≤ x ∧ x ≤ 127) : vp_nar .byte (Int32.ofInt x) = Int32.ofInt x := by
  have key : ∀ k : Nat, k < 256 → (Int32.ofInt ((k : Int) - 128)).toInt8.toInt32 = Int32.ofInt ((k : Int) - 128) := by decide +kernel
  obtain ⟨k, hk⟩ : ∃ k : Nat, x = (k : Int) - 128 := ⟨(x + 128).toNat, by omega⟩
  rw [vp_nar_byte, hk]
  exact key k (by omega)

theorem R_getfi {K : Launch × Nat × (Nat → Int)} {d : Nat} {y : mth} {kc ks pc pc' : Nat} {L st : List av} {G : hp} {Q : hp → av → Prop} {x : Int} {idx ci j len : Nat} (hd : decode y.2.1 pc = .ok (.getfield idx, 3)) (hw : kF y.1.cls idx ci j) (hc : isC G x ci len) (h10 : ci < 10) (hj : j < nflds ci) (ht : isRefT (fldT ci j) = false) (hn : pc + 3 = pc') (k : WP K d y kc ks pc' L ((0, G.2.2 x j) :: st) G Q) : WP K d y kc ks pc L ((2, x) :: st) G Q := by
  subst hn
  intro p e s m args below meth c D cA ros fm A n0 ad0 QW ad H locs ls C hR hS hn0 ha hl
  obtain ⟨⟨hx, hb, hml, hr, hlk, hown, hmn, hts, hnw⟩, hK, hSW, hA, hRC⟩ := id C
  have k' := k p e s m args below meth c D cA ros fm A n0 ad0 QW ad H locs ls C hR hS hn0 ha hl
  refine W.eq (g2 := F0 m pc ls (.ref (ad x.toNat) :: st.map (cv ad ros fm))) (by rw [List.map_cons, cv_ref hc.1]) ?_
  refine va_get (D := D) (ci := ci) (v := cv ad ros fm (0, G.2.2 x j)) hx hb hts (fld_in ci h10) hown hK hR.1 x.toNat (ent_obj hc h10) (vwCl_at ci h10) j hj (hts _ hw) (fun _ h => h) (by simp [hj, cf, ht, cv]) hd k'
theorem R_getfr {K : Launch × Nat × (Nat → Int)} {d : Nat} {y : mth} {kc ks pc pc' : Nat} {L st : List av} {G : hp} {Q : hp → av → Prop} {x : Int} {idx ci j len : Nat} (hd : decode y.2.1 pc = .ok (.getfield idx, 3)) (hw : kF y.1.cls idx ci j) (hc : isC G x ci len) (h10 : ci < 10) (hj : j < nflds ci) (ht : isRefT (fldT ci j) = true) (hn : pc + 3 = pc') (k : WP K d y kc ks pc' L ((2, G.2.2 x j) :: st) G Q) : WP K d y kc ks pc L ((2, x) :: st) G Q := by
  subst hn
  intro p e s m args below meth c D cA ros fm A n0 ad0 QW ad H locs ls C hR hS hn0 ha hl
  obtain ⟨⟨hx, hb, hml, hr, hlk, hown, hmn, hts, hnw⟩, hK, hSW, hA, hRC⟩ := id C
  have k' := k p e s m args below meth c D cA ros fm A n0 ad0 QW ad H locs ls C hR hS hn0 ha hl
  refine W.eq (g2 := F0 m pc ls (.ref (ad x.toNat) :: st.map (cv ad ros fm))) (by rw [List.map_cons, cv_ref hc.1]) ?_
  refine va_get (D := D) (ci := ci) (v := cv ad ros fm (2, G.2.2 x j)) hx hb hts (fld_in ci h10) hown hK hR.1 x.toNat (ent_obj hc h10) (vwCl_at ci h10) j hj (hts _ hw) (fun _ h => h) (by simp [hj, cf, ht, cv]) hd k'
theorem R_getfNi {K : Launch × Nat × (Nat → Int)} {d : Nat} {y : mth} {kc ks pc pc' : Nat} {L st : List av} {G : hp} {Q : hp → av → Prop} {x : Int} {idx ci j len : Nat} (hd : decode y.2.1 pc = .ok (.getfield idx, 3)) (hw : kFN y.1.cls idx ci j) (hc : isC G x ci len) (h10 : ci < 10) (hj : j < nflds ci) (ht : isRefT (fldT ci j) = false) (hn : pc + 3 = pc') (k : WP K d y kc ks pc' L ((0, G.2.2 x j) :: st) G Q) : WP K d y kc ks pc L ((2, x) :: st) G Q := by
  subst hn
  intro p e s m args below meth c D cA ros fm A n0 ad0 QW ad H locs ls C hR hS hn0 ha hl
  obtain ⟨⟨hx, hb, hml, hr, hlk, hown, hmn, hts, hnw⟩, hK, hSW, hA, hRC⟩ := id C
  have k' := k p e s m args below meth c D cA ros fm A n0 ad0 QW ad H locs ls C hR hS hn0 ha hl
  obtain ⟨host, hw⟩ := hw
  refine W.eq (g2 := F0 m pc ls (.ref (ad x.toNat) :: st.map (cv ad ros fm))) (by rw [List.map_cons, cv_ref hc.1]) ?_
  refine va_getN (D := D) (ci := ci) (v := cv ad ros fm (0, G.2.2 x j)) hx hb hts (fld_in ci h10) hown hK hR.1 x.toNat (ent_obj hc h10) (vwCl_at ci h10) j hj (va_Nw.use rfl (hnw _ hw)) (fun _ h => h) (by simp [hj, cf, ht, cv]) hd k'
theorem R_getfNr {K : Launch × Nat × (Nat → Int)} {d : Nat} {y : mth} {kc ks pc pc' : Nat} {L st : List av} {G : hp} {Q : hp → av → Prop} {x : Int} {idx ci j len : Nat} (hd : decode y.2.1 pc = .ok (.getfield idx, 3)) (hw : kFN y.1.cls idx ci j) (hc : isC G x ci len) (h10 : ci < 10) (hj : j < nflds ci) (ht : isRefT (fldT ci j) = true) (hn : pc + 3 = pc') (k : WP K d y kc ks pc' L ((2, G.2.2 x j) :: st) G Q) : WP K d y kc ks pc L ((2, x) :: st) G Q := by
  subst hn
  intro p e s m args below meth c D cA ros fm A n0 ad0 QW ad H locs ls C hR hS hn0 ha hl
  obtain ⟨⟨hx, hb, hml, hr, hlk, hown, hmn, hts, hnw⟩, hK, hSW, hA, hRC⟩ := id C
  have k' := k p e s m args below meth c D cA ros fm A n0 ad0 QW ad H locs ls C hR hS hn0 ha hl
  obtain ⟨host, hw⟩ := hw
  refine W.eq (g2 := F0 m pc ls (.ref (ad x.toNat) :: st.map (cv ad ros fm))) (by rw [List.map_cons, cv_ref hc.1]) ?_
  refine va_getN (D := D) (ci := ci) (v := cv ad ros fm (2, G.2.2 x j)) hx hb hts (fld_in ci h10) hown hK hR.1 x.toNat (ent_obj hc h10) (vwCl_at ci h10) j hj (va_Nw.use rfl (hnw _ hw)) (fun _ h => h) (by simp [hj, cf, ht, cv]) hd k'
theorem R_putfi {K : Launch × Nat × (Nat → Int)} {d : Nat} {y : mth} {kc ks pc pc' : Nat} {L st : List av} {G : hp} {Q : hp → av → Prop} {x v : Int} {idx ci j len : Nat} (hd : decode y.2.1 pc = .ok (.putfield idx, 3)) (hw : kF y.1.cls idx ci j) (hc : isC G x ci len) (h10 : ci < 10) (hj : j < nflds ci) (hf : (fldN ci j).2.2.2 = false) (ht : fldT ci j = .int) (hn : pc + 3 = pc') (k : WP K d y kc ks pc' L (st) (hup G x j v) Q) : WP K d y kc ks pc L ((0, v) :: (2, x) :: st) G Q := by
  subst hn
  intro p e s m args below meth c D cA ros fm A n0 ad0 QW ad H locs ls C hR hS hn0 ha hl
  obtain ⟨⟨hx, hb, hml, hr, hlk, hown, hmn, hts, hnw⟩, hK, hSW, hA, hRC⟩ := id C
  obtain ⟨n, sh, ct⟩ := G
  refine W.eq (g2 := F0 m pc ls (cv ad ros fm (0, v) :: .ref (ad x.toNat) :: st.map (cv ad ros fm))) (by rw [List.map_cons, List.map_cons, cv_ref hc.1]) ?_
  have ecf : cv ad ros fm (0, v) = cf ad (fldT ci j) v := by simp [cf, ht, isRefT, cv]
  refine va_put (D := D) (ci := ci) (v := cv ad ros fm (0, v)) (ty := fldT ci j) hx hb hts (fld_in ci h10) (fldT ci) (fld_ty ci h10) (fld_nm ci h10) hown hK hR.1 hR.2.1 hS x.toNat (ent_obj hc h10) (vwCl_at ci h10) j hj (hts _ hw) (fun _ h => h) hf (fld_ty ci h10 j hj) (by rw [ht]; rfl) (by rw [ht]; rfl) (by simpa using hj) hd (fun H1 locs1 hP1 hD1 hS1 => ?_)
  have ew : (wl ad cA (n, sh, ct)).set x.toNat (ad x.toNat, .inr (ci, ((List.range (nflds ci)).map (fun j => cf ad (fldT ci j) (ct x j))).set j (cv ad ros fm (0, v)))) = wl ad cA (n, sh, up2 ct x j v) := by
    have h1 : sh x.toNat = (ci, len) := hc.2.2
    have := wl_upF (ad := ad) (cA := cA) (n := n) (sh := sh) (c := ct) (k := x.toNat) (i := j) (x := v) (by rw [h1]; exact h10) (by rw [h1]; exact hj)
    rw [h1] at this
    simp only [hc.c] at this
    rw [ecf]
    exact this
  have hHV : HV (n, sh, up2 ct x j v) := by
    have := hR.2.2.upN (k := x.toNat) (i := j) (x := v) (by show refSlot (sh x.toNat).1 j = false; rw [show sh x.toNat = (ci, len) from hc.2.2]; simp [refSlot, h10, ht, isRefT])
    rwa [hc.c] at this
  rw [show ((n, sh, ct) : hp).2.2 = ct from rfl] at hP1 hD1
  rw [ew] at hP1 hD1
  exact k p e s m args below meth c D cA ros fm A n0 ad0 QW ad H1 locs1 ls C ⟨hP1, hD1, hHV⟩ hS1 hn0 ha hl
theorem R_putfz {K : Launch × Nat × (Nat → Int)} {d : Nat} {y : mth} {kc ks pc pc' : Nat} {L st : List av} {G : hp} {Q : hp → av → Prop} {x v : Int} {idx ci j len : Nat} (hd : decode y.2.1 pc = .ok (.putfield idx, 3)) (hw : kF y.1.cls idx ci j) (hc : isC G x ci len) (h10 : ci < 10) (hj : j < nflds ci) (hf : (fldN ci j).2.2.2 = false) (ht : fldT ci j = .boolean) (hz : v = 0 ∨ v = 1) (hn : pc + 3 = pc') (k : WP K d y kc ks pc' L (st) (hup G x j v) Q) : WP K d y kc ks pc L ((0, v) :: (2, x) :: st) G Q := by
  subst hn
  intro p e s m args below meth c D cA ros fm A n0 ad0 QW ad H locs ls C hR hS hn0 ha hl
  obtain ⟨⟨hx, hb, hml, hr, hlk, hown, hmn, hts, hnw⟩, hK, hSW, hA, hRC⟩ := id C
  obtain ⟨n, sh, ct⟩ := G
  refine W.eq (g2 := F0 m pc ls (cv ad ros fm (0, v) :: .ref (ad x.toNat) :: st.map (cv ad ros fm))) (by rw [List.map_cons, List.map_cons, cv_ref hc.1]) ?_
  have ecf : cv ad ros fm (0, v) = cf ad (fldT ci j) v := by simp [cf, ht, isRefT, cv]
  refine va_put (D := D) (ci := ci) (v := cv ad ros fm (0, v)) (ty := fldT ci j) hx hb hts (fld_in ci h10) (fldT ci) (fld_ty ci h10) (fld_nm ci h10) hown hK hR.1 hR.2.1 hS x.toNat (ent_obj hc h10) (vwCl_at ci h10) j hj (hts _ hw) (fun _ h => h) hf (fld_ty ci h10 j hj) (by rw [ht]; exact (nar_bool hz).1) (by rw [ht]; exact (nar_bool hz).2) (by simpa using hj) hd (fun H1 locs1 hP1 hD1 hS1 => ?_)
  have ew : (wl ad cA (n, sh, ct)).set x.toNat (ad x.toNat, .inr (ci, ((List.range (nflds ci)).map (fun j => cf ad (fldT ci j) (ct x j))).set j (cv ad ros fm (0, v)))) = wl ad cA (n, sh, up2 ct x j v) := by
    have h1 : sh x.toNat = (ci, len) := hc.2.2
    have := wl_upF (ad := ad) (cA := cA) (n := n) (sh := sh) (c := ct) (k := x.toNat) (i := j) (x := v) (by rw [h1]; exact h10) (by rw [h1]; exact hj)
    rw [h1] at this
    simp only [hc.c] at this
    rw [ecf]
    exact this
  have hHV : HV (n, sh, up2 ct x j v) := by
    have := hR.2.2.upN (k := x.toNat) (i := j) (x := v) (by show refSlot (sh x.toNat).1 j = false; rw [show sh x.toNat = (ci, len) from hc.2.2]; simp [refSlot, h10, ht, isRefT])
    rwa [hc.c] at this
  rw [show ((n, sh, ct) : hp).2.2 = ct from rfl] at hP1 hD1
  rw [ew] at hP1 hD1
  exact k p e s m args below meth c D cA ros fm A n0 ad0 QW ad H1 locs1 ls C ⟨hP1, hD1, hHV⟩ hS1 hn0 ha hl
theorem R_putfr {K : Launch × Nat × (Nat → Int)} {d : Nat} {y : mth} {kc ks pc pc' : Nat} {L st : List av} {G : hp} {Q : hp → av → Prop} {x v : Int} {idx ci j len : Nat} (hd : decode y.2.1 pc = .ok (.putfield idx, 3)) (hw : kF y.1.cls idx ci j) (hc : isC G x ci len) (h10 : ci < 10) (hj : j < nflds ci) (hf : (fldN ci j).2.2.2 = false) (ht : isRefT (fldT ci j) = true) (hv0 : v < G.1) (hn : pc + 3 = pc') (k : WP K d y kc ks pc' L (st) (hup G x j v) Q) : WP K d y kc ks pc L ((2, v) :: (2, x) :: st) G Q := by
  subst hn
  intro p e s m args below meth c D cA ros fm A n0 ad0 QW ad H locs ls C hR hS hn0 ha hl
  obtain ⟨⟨hx, hb, hml, hr, hlk, hown, hmn, hts, hnw⟩, hK, hSW, hA, hRC⟩ := id C
  obtain ⟨n, sh, ct⟩ := G
  refine W.eq (g2 := F0 m pc ls (cv ad ros fm (2, v) :: .ref (ad x.toNat) :: st.map (cv ad ros fm))) (by rw [List.map_cons, List.map_cons, cv_ref hc.1]) ?_
  have ecf : cv ad ros fm (2, v) = cf ad (fldT ci j) v := by simp [cf, ht, cv]
  refine va_put (D := D) (ci := ci) (v := cv ad ros fm (2, v)) (ty := fldT ci j) hx hb hts (fld_in ci h10) (fldT ci) (fld_ty ci h10) (fld_nm ci h10) hown hK hR.1 hR.2.1 hS x.toNat (ent_obj hc h10) (vwCl_at ci h10) j hj (hts _ hw) (fun _ h => h) hf (fld_ty ci h10 j hj) (nar_ref ht).1 (nar_ref ht).2 (by simpa using hj) hd (fun H1 locs1 hP1 hD1 hS1 => ?_)
  have ew : (wl ad cA (n, sh, ct)).set x.toNat (ad x.toNat, .inr (ci, ((List.range (nflds ci)).map (fun j => cf ad (fldT ci j) (ct x j))).set j (cv ad ros fm (2, v)))) = wl ad cA (n, sh, up2 ct x j v) := by
    have h1 : sh x.toNat = (ci, len) := hc.2.2
    have := wl_upF (ad := ad) (cA := cA) (n := n) (sh := sh) (c := ct) (k := x.toNat) (i := j) (x := v) (by rw [h1]; exact h10) (by rw [h1]; exact hj)
    rw [h1] at this
    simp only [hc.c] at this
    rw [ecf]
    exact this
  have hHV : HV (n, sh, up2 ct x j v) := by
    have := hR.2.2.up (k := x.toNat) (i := j) (x := v) (fun _ => hv0)
    rwa [hc.c] at this
  rw [show ((n, sh, ct) : hp).2.2 = ct from rfl] at hP1 hD1
  rw [ew] at hP1 hD1
  exact k p e s m args below meth c D cA ros fm A n0 ad0 QW ad H1 locs1 ls C ⟨hP1, hD1, hHV⟩ hS1 hn0 ha hl
theorem R_putfNi {K : Launch × Nat × (Nat → Int)} {d : Nat} {y : mth} {kc ks pc pc' : Nat} {L st : List av} {G : hp} {Q : hp → av → Prop} {x v : Int} {idx ci j len : Nat} (hd : decode y.2.1 pc = .ok (.putfield idx, 3)) (hw : kFN y.1.cls idx ci j) (hc : isC G x ci len) (h10 : ci < 10) (hj : j < nflds ci) (hf : (fldN ci j).2.2.2 = false) (ht : fldT ci j = .int) (hn : pc + 3 = pc') (k : WP K d y kc ks pc' L (st) (hup G x j v) Q) : WP K d y kc ks pc L ((0, v) :: (2, x) :: st) G Q := by
  subst hn
  intro p e s m args below meth c D cA ros fm A n0 ad0 QW ad H locs ls C hR hS hn0 ha hl
  obtain ⟨⟨hx, hb, hml, hr, hlk, hown, hmn, hts, hnw⟩, hK, hSW, hA, hRC⟩ := id C
  obtain ⟨n, sh, ct⟩ := G
  obtain ⟨host, hw⟩ := hw
  refine W.eq (g2 := F0 m pc ls (cv ad ros fm (0, v) :: .ref (ad x.toNat) :: st.map (cv ad ros fm))) (by rw [List.map_cons, List.map_cons, cv_ref hc.1]) ?_
  have ecf : cv ad ros fm (0, v) = cf ad (fldT ci j) v := by simp [cf, ht, isRefT, cv]
  refine va_putN (D := D) (ci := ci) (v := cv ad ros fm (0, v)) (ty := fldT ci j) hx hb hts (fld_in ci h10) (fldT ci) (fld_ty ci h10) (fld_nm ci h10) hown hK hR.1 hR.2.1 hS x.toNat (ent_obj hc h10) (vwCl_at ci h10) j hj (va_Nw.use rfl (hnw _ hw)) (fun _ h => h) hf (fld_ty ci h10 j hj) (by rw [ht]; rfl) (by rw [ht]; rfl) (by simpa using hj) hd (fun H1 locs1 hP1 hD1 hS1 => ?_)
  have ew : (wl ad cA (n, sh, ct)).set x.toNat (ad x.toNat, .inr (ci, ((List.range (nflds ci)).map (fun j => cf ad (fldT ci j) (ct x j))).set j (cv ad ros fm (0, v)))) = wl ad cA (n, sh, up2 ct x j v) := by
    have h1 : sh x.toNat = (ci, len) := hc.2.2
    have := wl_upF (ad := ad) (cA := cA) (n := n) (sh := sh) (c := ct) (k := x.toNat) (i := j) (x := v) (by rw [h1]; exact h10) (by rw [h1]; exact hj)
    rw [h1] at this
    simp only [hc.c] at this
    rw [ecf]
    exact this
  have hHV : HV (n, sh, up2 ct x j v) := by
    have := hR.2.2.upN (k := x.toNat) (i := j) (x := v) (by show refSlot (sh x.toNat).1 j = false; rw [show sh x.toNat = (ci, len) from hc.2.2]; simp [refSlot, h10, ht, isRefT])
    rwa [hc.c] at this
  rw [show ((n, sh, ct) : hp).2.2 = ct from rfl] at hP1 hD1
  rw [ew] at hP1 hD1
  exact k p e s m args below meth c D cA ros fm A n0 ad0 QW ad H1 locs1 ls C ⟨hP1, hD1, hHV⟩ hS1 hn0 ha hl
theorem R_putfNz {K : Launch × Nat × (Nat → Int)} {d : Nat} {y : mth} {kc ks pc pc' : Nat} {L st : List av} {G : hp} {Q : hp → av → Prop} {x v : Int} {idx ci j len : Nat} (hd : decode y.2.1 pc = .ok (.putfield idx, 3)) (hw : kFN y.1.cls idx ci j) (hc : isC G x ci len) (h10 : ci < 10) (hj : j < nflds ci) (hf : (fldN ci j).2.2.2 = false) (ht : fldT ci j = .boolean) (hz : v = 0 ∨ v = 1) (hn : pc + 3 = pc') (k : WP K d y kc ks pc' L (st) (hup G x j v) Q) : WP K d y kc ks pc L ((0, v) :: (2, x) :: st) G Q := by
  subst hn
  intro p e s m args below meth c D cA ros fm A n0 ad0 QW ad H locs ls C hR hS hn0 ha hl
  obtain ⟨⟨hx, hb, hml, hr, hlk, hown, hmn, hts, hnw⟩, hK, hSW, hA, hRC⟩ := id C
  obtain ⟨n, sh, ct⟩ := G
  obtain ⟨host, hw⟩ := hw
  refine W.eq (g2 := F0 m pc ls (cv ad ros fm (0, v) :: .ref (ad x.toNat) :: st.map (cv ad ros fm))) (by rw [List.map_cons, List.map_cons, cv_ref hc.1]) ?_
  have ecf : cv ad ros fm (0, v) = cf ad (fldT ci j) v := by simp [cf, ht, isRefT, cv]
  refine va_putN (D := D) (ci := ci) (v := cv ad ros fm (0, v)) (ty := fldT ci j) hx hb hts (fld_in ci h10) (fldT ci) (fld_ty ci h10) (fld_nm ci h10) hown hK hR.1 hR.2.1 hS x.toNat (ent_obj hc h10) (vwCl_at ci h10) j hj (va_Nw.use rfl (hnw _ hw)) (fun _ h => h) hf (fld_ty ci h10 j hj) (by rw [ht]; exact (nar_bool hz).1) (by rw [ht]; exact (nar_bool hz).2) (by simpa using hj) hd (fun H1 locs1 hP1 hD1 hS1 => ?_)
  have ew : (wl ad cA (n, sh, ct)).set x.toNat (ad x.toNat, .inr (ci, ((List.range (nflds ci)).map (fun j => cf ad (fldT ci j) (ct x j))).set j (cv ad ros fm (0, v)))) = wl ad cA (n, sh, up2 ct x j v) := by
    have h1 : sh x.toNat = (ci, len) := hc.2.2
    have := wl_upF (ad := ad) (cA := cA) (n := n) (sh := sh) (c := ct) (k := x.toNat) (i := j) (x := v) (by rw [h1]; exact h10) (by rw [h1]; exact hj)
    rw [h1] at this
    simp only [hc.c] at this
    rw [ecf]
    exact this
  have hHV : HV (n, sh, up2 ct x j v) := by
    have := hR.2.2.upN (k := x.toNat) (i := j) (x := v) (by show refSlot (sh x.toNat).1 j = false; rw [show sh x.toNat = (ci, len) from hc.2.2]; simp [refSlot, h10, ht, isRefT])
    rwa [hc.c] at this
  rw [show ((n, sh, ct) : hp).2.2 = ct from rfl] at hP1 hD1
  rw [ew] at hP1 hD1
  exact k p e s m args below meth c D cA ros fm A n0 ad0 QW ad H1 locs1 ls C ⟨hP1, hD1, hHV⟩ hS1 hn0 ha hl
theorem R_putfNr {K : Launch × Nat × (Nat → Int)} {d : Nat} {y : mth} {kc ks pc pc' : Nat} {L st : List av} {G : hp} {Q : hp → av → Prop} {x v : Int} {idx ci j len : Nat} (hd : decode y.2.1 pc = .ok (.putfield idx, 3)) (hw : kFN y.1.cls idx ci j) (hc : isC G x ci len) (h10 : ci < 10) (hj : j < nflds ci) (hf : (fldN ci j).2.2.2 = false) (ht : isRefT (fldT ci j) = true) (hv0 : v < G.1) (hn : pc + 3 = pc') (k : WP K d y kc ks pc' L (st) (hup G x j v) Q) : WP K d y kc ks pc L ((2, v) :: (2, x) :: st) G Q := by
  subst hn
  intro p e s m args below meth c D cA ros fm A n0 ad0 QW ad H locs ls C hR hS hn0 ha hl
  obtain ⟨⟨hx, hb, hml, hr, hlk, hown, hmn, hts, hnw⟩, hK, hSW, hA, hRC⟩ := id C
  obtain ⟨n, sh, ct⟩ := G
  obtain ⟨host, hw⟩ := hw
  refine W.eq (g2 := F0 m pc ls (cv ad ros fm (2, v) :: .ref (ad x.toNat) :: st.map (cv ad ros fm))) (by rw [List.map_cons, List.map_cons, cv_ref hc.1]) ?_
  have ecf : cv ad ros fm (2, v) = cf ad (fldT ci j) v := by simp [cf, ht, cv]
  refine va_putN (D := D) (ci := ci) (v := cv ad ros fm (2, v)) (ty := fldT ci j) hx hb hts (fld_in ci h10) (fldT ci) (fld_ty ci h10) (fld_nm ci h10) hown hK hR.1 hR.2.1 hS x.toNat (ent_obj hc h10) (vwCl_at ci h10) j hj (va_Nw.use rfl (hnw _ hw)) (fun _ h => h) hf (fld_ty ci h10 j hj) (nar_ref ht).1 (nar_ref ht).2 (by simpa using hj) hd (fun H1 locs1 hP1 hD1 hS1 => ?_)
  have ew : (wl ad cA (n, sh, ct)).set x.toNat (ad x.toNat, .inr (ci, ((List.range (nflds ci)).map (fun j => cf ad (fldT ci j) (ct x j))).set j (cv ad ros fm (2, v)))) = wl ad cA (n, sh, up2 ct x j v) := by
    have h1 : sh x.toNat = (ci, len) := hc.2.2
    have := wl_upF (ad := ad) (cA := cA) (n := n) (sh := sh) (c := ct) (k := x.toNat) (i := j) (x := v) (by rw [h1]; exact h10) (by rw [h1]; exact hj)
    rw [h1] at this
    simp only [hc.c] at this
    rw [ecf]
    exact this
  have hHV : HV (n, sh, up2 ct x j v) := by
    have := hR.2.2.up (k := x.toNat) (i := j) (x := v) (fun _ => hv0)
    rwa [hc.c] at this
  rw [show ((n, sh, ct) : hp).2.2 = ct from rfl] at hP1 hD1
  rw [ew] at hP1 hD1
  exact k p e s m args below meth c D cA ros fm A n0 ad0 QW ad H1 locs1 ls C ⟨hP1, hD1, hHV⟩ hS1 hn0 ha hl
theorem R_putfFi {K : Launch × Nat × (Nat → Int)} {d : Nat} {y : mth} {kc ks pc pc' : Nat} {L st : List av} {G : hp} {Q : hp → av → Prop} {x v : Int} {idx ci j len : Nat} (hd : decode y.2.1 pc = .ok (.putfield idx, 3)) (hw : kF y.1.cls idx ci j) (hc : isC G x ci len) (h10 : ci < 10) (hj : j < nflds ci) (hf : (fldN ci j).2.2.2 = true) (hin : y.1.name = "<init>") (hdc : (fldN ci j).1 = y.1.cls) (ht : fldT ci j = .int) (hn : pc + 3 = pc') (k : WP K d y kc ks pc' L (st) (hup G x j v) Q) : WP K d y kc ks pc L ((0, v) :: (2, x) :: st) G Q := by
  subst hn
  intro p e s m args below meth c D cA ros fm A n0 ad0 QW ad H locs ls C hR hS hn0 ha hl
  obtain ⟨⟨hx, hb, hml, hr, hlk, hown, hmn, hts, hnw⟩, hK, hSW, hA, hRC⟩ := id C
  obtain ⟨n, sh, ct⟩ := G
  refine W.eq (g2 := F0 m pc ls (cv ad ros fm (0, v) :: .ref (ad x.toNat) :: st.map (cv ad ros fm))) (by rw [List.map_cons, List.map_cons, cv_ref hc.1]) ?_
  have ecf : cv ad ros fm (0, v) = cf ad (fldT ci j) v := by simp [cf, ht, isRefT, cv]
  refine va_putF (D := D) (ci := ci) (v := cv ad ros fm (0, v)) (ty := fldT ci j) hx hb hts (fld_in ci h10) (fldT ci) (fld_ty ci h10) (fld_nm ci h10) hown hK hR.1 hR.2.1 hS x.toNat (ent_obj hc h10) (vwCl_at ci h10) j hj (hts _ hw) (fun _ h => h) hf (hmn hin) hdc (fld_ty ci h10 j hj) (by rw [ht]; rfl) (by rw [ht]; rfl) (by simpa using hj) hd (fun H1 locs1 hP1 hD1 hS1 => ?_)
  have ew : (wl ad cA (n, sh, ct)).set x.toNat (ad x.toNat, .inr (ci, ((List.range (nflds ci)).map (fun j => cf ad (fldT ci j) (ct x j))).set j (cv ad ros fm (0, v)))) = wl ad cA (n, sh, up2 ct x j v) := by
    have h1 : sh x.toNat = (ci, len) := hc.2.2
    have := wl_upF (ad := ad) (cA := cA) (n := n) (sh := sh) (c := ct) (k := x.toNat) (i := j) (x := v) (by rw [h1]; exact h10) (by rw [h1]; exact hj)
    rw [h1] at this
    simp only [hc.c] at this
    rw [ecf]
    exact this
  have hHV : HV (n, sh, up2 ct x j v) := by
    have := hR.2.2.upN (k := x.toNat) (i := j) (x := v) (by show refSlot (sh x.toNat).1 j = false; rw [show sh x.toNat = (ci, len) from hc.2.2]; simp [refSlot, h10, ht, isRefT])
    rwa [hc.c] at this
  rw [show ((n, sh, ct) : hp).2.2 = ct from rfl] at hP1 hD1
  rw [ew] at hP1 hD1
  exact k p e s m args below meth c D cA ros fm A n0 ad0 QW ad H1 locs1 ls C ⟨hP1, hD1, hHV⟩ hS1 hn0 ha hl
theorem R_putfFz {K : Launch × Nat × (Nat → Int)} {d : Nat} {y : mth} {kc ks pc pc' : Nat} {L st : List av} {G : hp} {Q : hp → av → Prop} {x v : Int} {idx ci j len : Nat} (hd : decode y.2.1 pc = .ok (.putfield idx, 3)) (hw : kF y.1.cls idx ci j) (hc : isC G x ci len) (h10 : ci < 10) (hj : j < nflds ci) (hf : (fldN ci j).2.2.2 = true) (hin : y.1.name = "<init>") (hdc : (fldN ci j).1 = y.1.cls) (ht : fldT ci j = .boolean) (hz : v = 0 ∨ v = 1) (hn : pc + 3 = pc') (k : WP K d y kc ks pc' L (st) (hup G x j v) Q) : WP K d y kc ks pc L ((0, v) :: (2, x) :: st) G Q := by
  subst hn
  intro p e s m args below meth c D cA ros fm A n0 ad0 QW ad H locs ls C hR hS hn0 ha hl
  obtain ⟨⟨hx, hb, hml, hr, hlk, hown, hmn, hts, hnw⟩, hK, hSW, hA, hRC⟩ := id C
  obtain ⟨n, sh, ct⟩ := G
  refine W.eq (g2 := F0 m pc ls (cv ad ros fm (0, v) :: .ref (ad x.toNat) :: st.map (cv ad ros fm))) (by rw [List.map_cons, List.map_cons, cv_ref hc.1]) ?_
  have ecf : cv ad ros fm (0, v) = cf ad (fldT ci j) v := by simp [cf, ht, isRefT, cv]
  refine va_putF (D := D) (ci := ci) (v := cv ad ros fm (0, v)) (ty := fldT ci j) hx hb hts (fld_in ci h10) (fldT ci) (fld_ty ci h10) (fld_nm ci h10) hown hK hR.1 hR.2.1 hS x.toNat (ent_obj hc h10) (vwCl_at ci h10) j hj (hts _ hw) (fun _ h => h) hf (hmn hin) hdc (fld_ty ci h10 j hj) (by rw [ht]; exact (nar_bool hz).1) (by rw [ht]; exact (nar_bool hz).2) (by simpa using hj) hd (fun H1 locs1 hP1 hD1 hS1 => ?_)
  have ew : (wl ad cA (n, sh, ct)).set x.toNat (ad x.toNat, .inr (ci, ((List.range (nflds ci)).map (fun j => cf ad (fldT ci j) (ct x j))).set j (cv ad ros fm (0, v)))) = wl ad cA (n, sh, up2 ct x j v) := by
    have h1 : sh x.toNat = (ci, len) := hc.2.2
    have := wl_upF (ad := ad) (cA := cA) (n := n) (sh := sh) (c := ct) (k := x.toNat) (i := j) (x := v) (by rw [h1]; exact h10) (by rw [h1]; exact hj)
    rw [h1] at this
    simp only [hc.c] at this
    rw [ecf]
    exact this
  have hHV : HV (n, sh, up2 ct x j v) := by
    have := hR.2.2.upN (k := x.toNat) (i := j) (x := v) (by show refSlot (sh x.toNat).1 j = false; rw [show sh x.toNat = (ci, len) from hc.2.2]; simp [refSlot, h10, ht, isRefT])
    rwa [hc.c] at this
  rw [show ((n, sh, ct) : hp).2.2 = ct from rfl] at hP1 hD1
  rw [ew] at hP1 hD1
  exact k p e s m args below meth c D cA ros fm A n0 ad0 QW ad H1 locs1 ls C ⟨hP1, hD1, hHV⟩ hS1 hn0 ha hl
theorem R_putfFr {K : Launch × Nat × (Nat → Int)} {d : Nat} {y : mth} {kc ks pc pc' : Nat} {L st : List av} {G : hp} {Q : hp → av → Prop} {x v : Int} {idx ci j len : Nat} (hd : decode y.2.1 pc = .ok (.putfield idx, 3)) (hw : kF y.1.cls idx ci j) (hc : isC G x ci len) (h10 : ci < 10) (hj : j < nflds ci) (hf : (fldN ci j).2.2.2 = true) (hin : y.1.name = "<init>") (hdc : (fldN ci j).1 = y.1.cls) (ht : isRefT (fldT ci j) = true) (hv0 : v < G.1) (hn : pc + 3 = pc') (k : WP K d y kc ks pc' L (st) (hup G x j v) Q) : WP K d y kc ks pc L ((2, v) :: (2, x) :: st) G Q := by
  subst hn
  intro p e s m args below meth c D cA ros fm A n0 ad0 QW ad H locs ls C hR hS hn0 ha hl
  obtain ⟨⟨hx, hb, hml, hr, hlk, hown, hmn, hts, hnw⟩, hK, hSW, hA, hRC⟩ := id C
  obtain ⟨n, sh, ct⟩ := G
  refine W.eq (g2 := F0 m pc ls (cv ad ros fm (2, v) :: .ref (ad x.toNat) :: st.map (cv ad ros fm))) (by rw [List.map_cons, List.map_cons, cv_ref hc.1]) ?_
  have ecf : cv ad ros fm (2, v) = cf ad (fldT ci j) v := by simp [cf, ht, cv]
  refine va_putF (D := D) (ci := ci) (v := cv ad ros fm (2, v)) (ty := fldT ci j) hx hb hts (fld_in ci h10) (fldT ci) (fld_ty ci h10) (fld_nm ci h10) hown hK hR.1 hR.2.1 hS x.toNat (ent_obj hc h10) (vwCl_at ci h10) j hj (hts _ hw) (fun _ h => h) hf (hmn hin) hdc (fld_ty ci h10 j hj) (nar_ref ht).1 (nar_ref ht).2 (by simpa using hj) hd (fun H1 locs1 hP1 hD1 hS1 => ?_)
  have ew : (wl ad cA (n, sh, ct)).set x.toNat (ad x.toNat, .inr (ci, ((List.range (nflds ci)).map (fun j => cf ad (fldT ci j) (ct x j))).set j (cv ad ros fm (2, v)))) = wl ad cA (n, sh, up2 ct x j v) := by
    have h1 : sh x.toNat = (ci, len) := hc.2.2
    have := wl_upF (ad := ad) (cA := cA) (n := n) (sh := sh) (c := ct) (k := x.toNat) (i := j) (x := v) (by rw [h1]; exact h10) (by rw [h1]; exact hj)
    rw [h1] at this
    simp only [hc.c] at this
    rw [ecf]
    exact this
  have hHV : HV (n, sh, up2 ct x j v) := by
    have := hR.2.2.up (k := x.toNat) (i := j) (x := v) (fun _ => hv0)
    rwa [hc.c] at this
  rw [show ((n, sh, ct) : hp).2.2 = ct from rfl] at hP1 hD1
  rw [ew] at hP1 hD1
  exact k p e s m args below meth c D cA ros fm A n0 ad0 QW ad H1 locs1 ls C ⟨hP1, hD1, hHV⟩ hS1 hn0 ha hl
theorem R_iaload {K : Launch × Nat × (Nat → Int)} {d : Nat} {y : mth} {kc ks pc pc' : Nat} {L st : List av} {G : hp} {Q : hp → av → Prop} {x i : Int} {len : Nat} (hd : decode y.2.1 pc = .ok (.iaload, 1)) (hc : isC G x 10 len) (h31 : len ≤ 2147483648) (h0 : 0 ≤ i) (h1 : i < len) (hn : pc + 1 = pc') (k : WP K d y kc ks pc' L ((0, G.2.2 x i) :: st) G Q) : WP K d y kc ks pc L ((0, i) :: (2, x) :: st) G Q := by
  subst hn
  intro p e s m args below meth c D cA ros fm A n0 ad0 QW ad H locs ls C hR hS hn0 ha hl
  obtain ⟨⟨hx, hb, hml, hr, hlk, hown, hmn, hts, hnw⟩, hK, hSW, hA, hRC⟩ := id C
  have k' := k p e s m args below meth c D cA ros fm A n0 ad0 QW ad H locs ls C hR hS hn0 ha hl
  refine W.eq (g2 := F0 m pc ls (.int (Int32.ofInt i) :: .ref (ad x.toNat) :: st.map (cv ad ros fm))) (by rw [List.map_cons, List.map_cons, cv_ref hc.1]; rfl) ?_
  refine va_iald (D := D) hx hb hK hR.1 x.toNat 0 (ent_i hc (by omega)) rfl (i_in h0 h1 h31) hd (W.eq ?_ k')
  rw [i_clamp h0 (by omega)]
  have e1 : (i.toNat : Int) = i := by omega
  simp only [e1, List.map_cons, cv]
theorem R_zaload {K : Launch × Nat × (Nat → Int)} {d : Nat} {y : mth} {kc ks pc pc' : Nat} {L st : List av} {G : hp} {Q : hp → av → Prop} {x i : Int} {len : Nat} (hd : decode y.2.1 pc = .ok (.baload, 1)) (hc : isC G x 11 len) (h31 : len ≤ 2147483648) (h0 : 0 ≤ i) (h1 : i < len) (hn : pc + 1 = pc') (k : WP K d y kc ks pc' L ((0, G.2.2 x i) :: st) G Q) : WP K d y kc ks pc L ((0, i) :: (2, x) :: st) G Q := by
  subst hn
  intro p e s m args below meth c D cA ros fm A n0 ad0 QW ad H locs ls C hR hS hn0 ha hl
  obtain ⟨⟨hx, hb, hml, hr, hlk, hown, hmn, hts, hnw⟩, hK, hSW, hA, hRC⟩ := id C
  have k' := k p e s m args below meth c D cA ros fm A n0 ad0 QW ad H locs ls C hR hS hn0 ha hl
  refine W.eq (g2 := F0 m pc ls (.int (Int32.ofInt i) :: .ref (ad x.toNat) :: st.map (cv ad ros fm))) (by rw [List.map_cons, List.map_cons, cv_ref hc.1]; rfl) ?_
  refine va_zald (D := D) hx hb hK hR.1 x.toNat 1 (ent_i hc (by omega)) rfl (i_in h0 h1 h31) hd (W.eq ?_ k')
  rw [i_clamp h0 (by omega)]
  have e1 : (i.toNat : Int) = i := by omega
  simp only [e1, List.map_cons, cv]
theorem R_baload {K : Launch × Nat × (Nat → Int)} {d : Nat} {y : mth} {kc ks pc pc' : Nat} {L st : List av} {G : hp} {Q : hp → av → Prop} {x i : Int} {len : Nat} (hd : decode y.2.1 pc = .ok (.baload, 1)) (hc : isC G x 12 len) (h31 : len ≤ 2147483648) (h0 : 0 ≤ i) (h1 : i < len) (hn : pc + 1 = pc') (k : WP K d y kc ks pc' L ((0, G.2.2 x i) :: st) G Q) : WP K d y kc ks pc L ((0, i) :: (2, x) :: st) G Q := by
  subst hn
  intro p e s m args below meth c D cA ros fm A n0 ad0 QW ad H locs ls C hR hS hn0 ha hl
  obtain ⟨⟨hx, hb, hml, hr, hlk, hown, hmn, hts, hnw⟩, hK, hSW, hA, hRC⟩ := id C
  have k' := k p e s m args below meth c D cA ros fm A n0 ad0 QW ad H locs ls C hR hS hn0 ha hl
  refine W.eq (g2 := F0 m pc ls (.int (Int32.ofInt i) :: .ref (ad x.toNat) :: st.map (cv ad ros fm))) (by rw [List.map_cons, List.map_cons, cv_ref hc.1]; rfl) ?_
  refine va_bald (D := D) hx hb hK hR.1 x.toNat 2 (ent_i hc (by omega)) rfl (i_in h0 h1 h31) hd (W.eq ?_ k')
  rw [i_clamp h0 (by omega)]
  have e1 : (i.toNat : Int) = i := by omega
  simp only [e1, List.map_cons, cv]
theorem R_laload {K : Launch × Nat × (Nat → Int)} {d : Nat} {y : mth} {kc ks pc pc' : Nat} {L st : List av} {G : hp} {Q : hp → av → Prop} {x i : Int} {len : Nat} (hd : decode y.2.1 pc = .ok (.laload, 1)) (hc : isC G x 13 len) (h31 : len ≤ 2147483648) (h0 : 0 ≤ i) (h1 : i < len) (hn : pc + 1 = pc') (k : WP K d y kc ks pc' L ((1, G.2.2 x i) :: st) G Q) : WP K d y kc ks pc L ((0, i) :: (2, x) :: st) G Q := by
  subst hn
  intro p e s m args below meth c D cA ros fm A n0 ad0 QW ad H locs ls C hR hS hn0 ha hl
  obtain ⟨⟨hx, hb, hml, hr, hlk, hown, hmn, hts, hnw⟩, hK, hSW, hA, hRC⟩ := id C
  have k' := k p e s m args below meth c D cA ros fm A n0 ad0 QW ad H locs ls C hR hS hn0 ha hl
  refine W.eq (g2 := F0 m pc ls (.int (Int32.ofInt i) :: .ref (ad x.toNat) :: st.map (cv ad ros fm))) (by rw [List.map_cons, List.map_cons, cv_ref hc.1]; rfl) ?_
  refine va_lald (D := D) hx hb hK hR.1 x.toNat 3 (ent_l hc) rfl (i_in h0 h1 h31) hd (W.eq ?_ k')
  rw [i_clamp h0 (by omega)]
  have e1 : (i.toNat : Int) = i := by omega
  simp only [e1, List.map_cons, cv]
theorem R_aaload14 {K : Launch × Nat × (Nat → Int)} {d : Nat} {y : mth} {kc ks pc pc' : Nat} {L st : List av} {G : hp} {Q : hp → av → Prop} {x i : Int} {len : Nat} (hd : decode y.2.1 pc = .ok (.aaload, 1)) (hc : isC G x 14 len) (h31 : len ≤ 2147483648) (h0 : 0 ≤ i) (h1 : i < len) (hn : pc + 1 = pc') (k : WP K d y kc ks pc' L ((2, G.2.2 x i) :: st) G Q) : WP K d y kc ks pc L ((0, i) :: (2, x) :: st) G Q := by
  subst hn
  intro p e s m args below meth c D cA ros fm A n0 ad0 QW ad H locs ls C hR hS hn0 ha hl
  obtain ⟨⟨hx, hb, hml, hr, hlk, hown, hmn, hts, hnw⟩, hK, hSW, hA, hRC⟩ := id C
  have k' := k p e s m args below meth c D cA ros fm A n0 ad0 QW ad H locs ls C hR hS hn0 ha hl
  refine W.eq (g2 := F0 m pc ls (.int (Int32.ofInt i) :: .ref (ad x.toNat) :: st.map (cv ad ros fm))) (by rw [List.map_cons, List.map_cons, cv_ref hc.1]; rfl) ?_
  refine va_aldq (D := D) hx hb hK hR.1 x.toNat 4 (ent_r hc (by omega)) rfl (i_in h0 h1 h31) hd (W.eq ?_ k')
  rw [i_clamp h0 (by omega)]
  have e1 : (i.toNat : Int) = i := by omega
  simp only [e1, List.map_cons, cv]
theorem R_aaload15 {K : Launch × Nat × (Nat → Int)} {d : Nat} {y : mth} {kc ks pc pc' : Nat} {L st : List av} {G : hp} {Q : hp → av → Prop} {x i : Int} {len : Nat} (hd : decode y.2.1 pc = .ok (.aaload, 1)) (hc : isC G x 15 len) (h31 : len ≤ 2147483648) (h0 : 0 ≤ i) (h1 : i < len) (hn : pc + 1 = pc') (k : WP K d y kc ks pc' L ((2, G.2.2 x i) :: st) G Q) : WP K d y kc ks pc L ((0, i) :: (2, x) :: st) G Q := by
  subst hn
  intro p e s m args below meth c D cA ros fm A n0 ad0 QW ad H locs ls C hR hS hn0 ha hl
  obtain ⟨⟨hx, hb, hml, hr, hlk, hown, hmn, hts, hnw⟩, hK, hSW, hA, hRC⟩ := id C
  have k' := k p e s m args below meth c D cA ros fm A n0 ad0 QW ad H locs ls C hR hS hn0 ha hl
  refine W.eq (g2 := F0 m pc ls (.int (Int32.ofInt i) :: .ref (ad x.toNat) :: st.map (cv ad ros fm))) (by rw [List.map_cons, List.map_cons, cv_ref hc.1]; rfl) ?_
  refine va_aldq (D := D) hx hb hK hR.1 x.toNat 5 (ent_r hc (by omega)) rfl (i_in h0 h1 h31) hd (W.eq ?_ k')
  rw [i_clamp h0 (by omega)]
  have e1 : (i.toNat : Int) = i := by omega
  simp only [e1, List.map_cons, cv]
theorem R_iastore {K : Launch × Nat × (Nat → Int)} {d : Nat} {y : mth} {kc ks pc pc' : Nat} {L st : List av} {G : hp} {Q : hp → av → Prop} {x i v : Int} {len : Nat} (hd : decode y.2.1 pc = .ok (.iastore, 1)) (hc : isC G x 10 len) (h31 : len ≤ 2147483648) (h0 : 0 ≤ i) (h1 : i < len)  (hn : pc + 1 = pc') (k : WP K d y kc ks pc' L (st) (hup G x i v) Q) : WP K d y kc ks pc L ((0, v) :: (0, i) :: (2, x) :: st) G Q := by
  subst hn
  intro p e s m args below meth c D cA ros fm A n0 ad0 QW ad H locs ls C hR hS hn0 ha hl
  obtain ⟨⟨hx, hb, hml, hr, hlk, hown, hmn, hts, hnw⟩, hK, hSW, hA, hRC⟩ := id C
  obtain ⟨n, sh, ct⟩ := G
  refine W.eq (g2 := F0 m pc ls (.int (Int32.ofInt v) :: .int (Int32.ofInt i) :: .ref (ad x.toNat) :: st.map (cv ad ros fm))) (by rw [List.map_cons, List.map_cons, List.map_cons, cv_ref hc.1]; rfl) ?_
  refine va_iast (D := D) hx hb hK hR.1 hR.2.1 hS x.toNat 0 (ent_i hc (by omega)) rfl (i_in h0 h1 h31) hd (fun H1 locs1 hP1 hD1 hS1 => ?_)
  have e1 : (i.toNat : Int) = i := by omega
  have h1s : sh x.toNat = (10, len) := hc.2.2
  have ew := wl_upI (ad := ad) (cA := cA) (n := n) (sh := sh) (c := ct) (k := x.toNat) (i := i.toNat) (x := v) (by rw [h1s]; simp)
  rw [h1s] at ew
  simp only [hc.c, e1] at ew
  rw [i_clamp h0 (by omega), show ((n, sh, ct) : hp).2.2 = ct from rfl, ew] at hP1 hD1
  have hHV : HV (n, sh, up2 ct x i v) := by
    have := hR.2.2.upN (k := x.toNat) (i := i.toNat) (x := v) (by show refSlot (sh x.toNat).1 i.toNat = false; rw [h1s]; rfl)
    rwa [hc.c, e1] at this
  exact k p e s m args below meth c D cA ros fm A n0 ad0 QW ad H1 locs1 ls C ⟨hP1, hD1, hHV⟩ hS1 hn0 ha hl
theorem nar_z {x : Int} (h : x = 0 ∨ x = 1) : vp_nar .boolean (Int32.ofInt x) = Int32.ofInt x := by
  rcases h with rfl | rfl <;> decide
theorem R_zastore {K : Launch × Nat × (Nat → Int)} {d : Nat} {y : mth} {kc ks pc pc' : Nat} {L st : List av} {G : hp} {Q : hp → av → Prop} {x i v : Int} {len : Nat} (hd : decode y.2.1 pc = .ok (.bastore, 1)) (hc : isC G x 11 len) (h31 : len ≤ 2147483648) (h0 : 0 ≤ i) (h1 : i < len) (hz : v = 0 ∨ v = 1) (hn : pc + 1 = pc') (k : WP K d y kc ks pc' L (st) (hup G x i v) Q) : WP K d y kc ks pc L ((0, v) :: (0, i) :: (2, x) :: st) G Q := by
  subst hn
  intro p e s m args below meth c D cA ros fm A n0 ad0 QW ad H locs ls C hR hS hn0 ha hl
  obtain ⟨⟨hx, hb, hml, hr, hlk, hown, hmn, hts, hnw⟩, hK, hSW, hA, hRC⟩ := id C
  obtain ⟨n, sh, ct⟩ := G
  refine W.eq (g2 := F0 m pc ls (.int (Int32.ofInt v) :: .int (Int32.ofInt i) :: .ref (ad x.toNat) :: st.map (cv ad ros fm))) (by rw [List.map_cons, List.map_cons, List.map_cons, cv_ref hc.1]; rfl) ?_
  refine va_zast (D := D) hx hb hK hR.1 hR.2.1 hS x.toNat 1 (ent_i hc (by omega)) rfl (i_in h0 h1 h31) hd (fun H1 locs1 hP1 hD1 hS1 => ?_)
  have e1 : (i.toNat : Int) = i := by omega
  have h1s : sh x.toNat = (11, len) := hc.2.2
  have ew := wl_upI (ad := ad) (cA := cA) (n := n) (sh := sh) (c := ct) (k := x.toNat) (i := i.toNat) (x := v) (by rw [h1s]; simp)
  rw [h1s] at ew
  simp only [hc.c, e1] at ew
  rw [i_clamp h0 (by omega), nar_z hz, show ((n, sh, ct) : hp).2.2 = ct from rfl, ew] at hP1 hD1
  have hHV : HV (n, sh, up2 ct x i v) := by
    have := hR.2.2.upN (k := x.toNat) (i := i.toNat) (x := v) (by show refSlot (sh x.toNat).1 i.toNat = false; rw [h1s]; rfl)
    rwa [hc.c, e1] at this
  exact k p e s m args below meth c D cA ros fm A n0 ad0 QW ad H1 locs1 ls C ⟨hP1, hD1, hHV⟩ hS1 hn0 ha hl
theorem R_bastore {K : Launch × Nat × (Nat → Int)} {d : Nat} {y : mth} {kc ks pc pc' : Nat} {L st : List av} {G : hp} {Q : hp → av → Prop} {x i v : Int} {len : Nat} (hd : decode y.2.1 pc = .ok (.bastore, 1)) (hc : isC G x 12 len) (h31 : len ≤ 2147483648) (h0 : 0 ≤ i) (h1 : i < len) (hz : -128 ≤ v ∧ v ≤ 127) (hn : pc + 1 = pc') (k : WP K d y kc ks pc' L (st) (hup G x i v) Q) : WP K d y kc ks pc L ((0, v) :: (0, i) :: (2, x) :: st) G Q := by
  subst hn
  intro p e s m args below meth c D cA ros fm A n0 ad0 QW ad H locs ls C hR hS hn0 ha hl
  obtain ⟨⟨hx, hb, hml, hr, hlk, hown, hmn, hts, hnw⟩, hK, hSW, hA, hRC⟩ := id C
  obtain ⟨n, sh, ct⟩ := G
  refine W.eq (g2 := F0 m pc ls (.int (Int32.ofInt v) :: .int (Int32.ofInt i) :: .ref (ad x.toNat) :: st.map (cv ad ros fm))) (by rw [List.map_cons, List.map_cons, List.map_cons, cv_ref hc.1]; rfl) ?_
  refine va_bast (D := D) hx hb hK hR.1 hR.2.1 hS x.toNat 2 (ent_i hc (by omega)) rfl (i_in h0 h1 h31) hd (fun H1 locs1 hP1 hD1 hS1 => ?_)
  have e1 : (i.toNat : Int) = i := by omega
  have h1s : sh x.toNat = (12, len) := hc.2.2
  have ew := wl_upI (ad := ad) (cA := cA) (n := n) (sh := sh) (c := ct) (k := x.toNat) (i := i.toNat) (x := v) (by rw [h1s]; simp)
  rw [h1s] at ew
  simp only [hc.c, e1] at ew
  rw [i_clamp h0 (by omega), nar_byte hz, show ((n, sh, ct) : hp).2.2 = ct from rfl, ew] at hP1 hD1
  have hHV : HV (n, sh, up2 ct x i v) := by
    have := hR.2.2.upN (k := x.toNat) (i := i.toNat) (x := v) (by show refSlot (sh x.toNat).1 i.toNat = false; rw [h1s]; rfl)
    rwa [hc.c, e1] at this
  exact k p e s m args below meth c D cA ros fm A n0 ad0 QW ad H1 locs1 ls C ⟨hP1, hD1, hHV⟩ hS1 hn0 ha hl
theorem R_lastore {K : Launch × Nat × (Nat → Int)} {d : Nat} {y : mth} {kc ks pc pc' : Nat} {L st : List av} {G : hp} {Q : hp → av → Prop} {x i v : Int} {len : Nat} (hd : decode y.2.1 pc = .ok (.lastore, 1)) (hc : isC G x 13 len) (h31 : len ≤ 2147483648) (h0 : 0 ≤ i) (h1 : i < len)  (hn : pc + 1 = pc') (k : WP K d y kc ks pc' L (st) (hup G x i v) Q) : WP K d y kc ks pc L ((1, v) :: (0, i) :: (2, x) :: st) G Q := by
  subst hn
  intro p e s m args below meth c D cA ros fm A n0 ad0 QW ad H locs ls C hR hS hn0 ha hl
  obtain ⟨⟨hx, hb, hml, hr, hlk, hown, hmn, hts, hnw⟩, hK, hSW, hA, hRC⟩ := id C
  obtain ⟨n, sh, ct⟩ := G
  refine W.eq (g2 := F0 m pc ls (.long (Int64.ofInt v) :: .int (Int32.ofInt i) :: .ref (ad x.toNat) :: st.map (cv ad ros fm))) (by rw [List.map_cons, List.map_cons, List.map_cons, cv_ref hc.1]; rfl) ?_
  refine va_last (D := D) hx hb hK hR.1 hR.2.1 hS x.toNat 3 (ent_l hc) rfl (i_in h0 h1 h31) hd (fun H1 locs1 hP1 hD1 hS1 => ?_)
  have e1 : (i.toNat : Int) = i := by omega
  have h1s : sh x.toNat = (13, len) := hc.2.2
  have ew := wl_upL (ad := ad) (cA := cA) (n := n) (sh := sh) (c := ct) (k := x.toNat) (i := i.toNat) (x := v) (by rw [h1s])
  rw [h1s] at ew
  simp only [hc.c, e1] at ew
  rw [i_clamp h0 (by omega), show ((n, sh, ct) : hp).2.2 = ct from rfl, ew] at hP1 hD1
  have hHV : HV (n, sh, up2 ct x i v) := by
    have := hR.2.2.upN (k := x.toNat) (i := i.toNat) (x := v) (by show refSlot (sh x.toNat).1 i.toNat = false; rw [h1s]; rfl)
    rwa [hc.c, e1] at this
  exact k p e s m args below meth c D cA ros fm A n0 ad0 QW ad H1 locs1 ls C ⟨hP1, hD1, hHV⟩ hS1 hn0 ha hl
theorem R_aastore14 {K : Launch × Nat × (Nat → Int)} {d : Nat} {y : mth} {kc ks pc pc' : Nat} {L st : List av} {G : hp} {Q : hp → av → Prop} {x i v : Int} {len len2 : Nat} (hd : decode y.2.1 pc = .ok (.aastore, 1)) (hc : isC G x 14 len) (h31 : len ≤ 2147483648) (h0 : 0 ≤ i) (h1 : i < len) (hv : isC G v 2 len2) (hn : pc + 1 = pc') (k : WP K d y kc ks pc' L (st) (hup G x i v) Q) : WP K d y kc ks pc L ((2, v) :: (0, i) :: (2, x) :: st) G Q := by
  subst hn
  intro p e s m args below meth c D cA ros fm A n0 ad0 QW ad H locs ls C hR hS hn0 ha hl
  obtain ⟨⟨hx, hb, hml, hr, hlk, hown, hmn, hts, hnw⟩, hK, hSW, hA, hRC⟩ := id C
  obtain ⟨n, sh, ct⟩ := G
  refine W.eq (g2 := F0 m pc ls (.ref (ad v.toNat) :: .int (Int32.ofInt i) :: .ref (ad x.toNat) :: st.map (cv ad ros fm))) (by rw [List.map_cons, List.map_cons, List.map_cons, cv_ref hc.1, cv_ref hv.1]; rfl) ?_
  refine va_astq (D := D) hx hb hK hR.1 hR.2.1 hS x.toNat 4 v.toNat 2 (ent_r hc (by omega)) rfl (ent_obj hv (by omega)) (vwCl_at 2 (by omega)) (i_in h0 h1 h31) hd (fun H1 locs1 hP1 hD1 hS1 => ?_)
  have e1 : (i.toNat : Int) = i := by omega
  have h1s : sh x.toNat = (14, len) := hc.2.2
  have hcr : some (ad v.toNat) = cr ad v := by simp only [cr, if_neg (Int.not_lt.mpr hv.1)]
  have ew := wl_upR (ad := ad) (cA := cA) (n := n) (sh := sh) (c := ct) (k := x.toNat) (i := i.toNat) (x := v) (by rw [h1s]; simp)
  rw [h1s] at ew
  simp only [hc.c, e1] at ew
  rw [i_clamp h0 (by omega), hcr, show ((n, sh, ct) : hp).2.2 = ct from rfl, ew] at hP1 hD1
  have hHV : HV (n, sh, up2 ct x i v) := by
    have := hR.2.2.up (k := x.toNat) (i := i.toNat) (x := v) (fun _ => hv.2.1)
    rwa [hc.c, e1] at this
  exact k p e s m args below meth c D cA ros fm A n0 ad0 QW ad H1 locs1 ls C ⟨hP1, hD1, hHV⟩ hS1 hn0 ha hl
theorem R_aastore15 {K : Launch × Nat × (Nat → Int)} {d : Nat} {y : mth} {kc ks pc pc' : Nat} {L st : List av} {G : hp} {Q : hp → av → Prop} {x i v : Int} {len len2 : Nat} (hd : decode y.2.1 pc = .ok (.aastore, 1)) (hc : isC G x 15 len) (h31 : len ≤ 2147483648) (h0 : 0 ≤ i) (h1 : i < len) (hv : isC G v 7 len2) (hn : pc + 1 = pc') (k : WP K d y kc ks pc' L (st) (hup G x i v) Q) : WP K d y kc ks pc L ((2, v) :: (0, i) :: (2, x) :: st) G Q := by
  subst hn
  intro p e s m args below meth c D cA ros fm A n0 ad0 QW ad H locs ls C hR hS hn0 ha hl
  obtain ⟨⟨hx, hb, hml, hr, hlk, hown, hmn, hts, hnw⟩, hK, hSW, hA, hRC⟩ := id C
  obtain ⟨n, sh, ct⟩ := G
  refine W.eq (g2 := F0 m pc ls (.ref (ad v.toNat) :: .int (Int32.ofInt i) :: .ref (ad x.toNat) :: st.map (cv ad ros fm))) (by rw [List.map_cons, List.map_cons, List.map_cons, cv_ref hc.1, cv_ref hv.1]; rfl) ?_
  refine va_astq (D := D) hx hb hK hR.1 hR.2.1 hS x.toNat 5 v.toNat 7 (ent_r hc (by omega)) rfl (ent_obj hv (by omega)) (vwCl_at 7 (by omega)) (i_in h0 h1 h31) hd (fun H1 locs1 hP1 hD1 hS1 => ?_)
  have e1 : (i.toNat : Int) = i := by omega
  have h1s : sh x.toNat = (15, len) := hc.2.2
  have hcr : some (ad v.toNat) = cr ad v := by simp only [cr, if_neg (Int.not_lt.mpr hv.1)]
  have ew := wl_upR (ad := ad) (cA := cA) (n := n) (sh := sh) (c := ct) (k := x.toNat) (i := i.toNat) (x := v) (by rw [h1s]; simp)
  rw [h1s] at ew
  simp only [hc.c, e1] at ew
  rw [i_clamp h0 (by omega), hcr, show ((n, sh, ct) : hp).2.2 = ct from rfl, ew] at hP1 hD1
  have hHV : HV (n, sh, up2 ct x i v) := by
    have := hR.2.2.up (k := x.toNat) (i := i.toNat) (x := v) (fun _ => hv.2.1)
    rwa [hc.c, e1] at this
  exact k p e s m args below meth c D cA ros fm A n0 ad0 QW ad H1 locs1 ls C ⟨hP1, hD1, hHV⟩ hS1 hn0 ha hl
theorem R_alen10 {K : Launch × Nat × (Nat → Int)} {d : Nat} {y : mth} {kc ks pc pc' : Nat} {L st : List av} {G : hp} {Q : hp → av → Prop} {x : Int} {len : Nat} (hd : decode y.2.1 pc = .ok (.arraylength, 1)) (hc : isC G x 10 len) (hn : pc + 1 = pc') (k : WP K d y kc ks pc' L ((0, (len : Int)) :: st) G Q) : WP K d y kc ks pc L ((2, x) :: st) G Q := by
  subst hn
  intro p e s m args below meth c D cA ros fm A n0 ad0 QW ad H locs ls C hR hS hn0 ha hl
  obtain ⟨⟨hx, hb, hml, hr, hlk, hown, hmn, hts, hnw⟩, hK, hSW, hA, hRC⟩ := id C
  have k' := k p e s m args below meth c D cA ros fm A n0 ad0 QW ad H locs ls C hR hS hn0 ha hl
  refine W.eq (g2 := F0 m pc ls (.ref (ad x.toNat) :: st.map (cv ad ros fm))) (by rw [List.map_cons, cv_ref hc.1]) ?_
  exact va_alen (D := D) (v := Int32.ofInt (len : Int)) hx hb hK hR.1 x.toNat 0 (ent_i hc (by omega)) (ty := .int) rfl (by rw [Int32.ofInt_eq_ofNat]) hd k'
theorem R_alen12 {K : Launch × Nat × (Nat → Int)} {d : Nat} {y : mth} {kc ks pc pc' : Nat} {L st : List av} {G : hp} {Q : hp → av → Prop} {x : Int} {len : Nat} (hd : decode y.2.1 pc = .ok (.arraylength, 1)) (hc : isC G x 12 len) (hn : pc + 1 = pc') (k : WP K d y kc ks pc' L ((0, (len : Int)) :: st) G Q) : WP K d y kc ks pc L ((2, x) :: st) G Q := by
  subst hn
  intro p e s m args below meth c D cA ros fm A n0 ad0 QW ad H locs ls C hR hS hn0 ha hl
  obtain ⟨⟨hx, hb, hml, hr, hlk, hown, hmn, hts, hnw⟩, hK, hSW, hA, hRC⟩ := id C
  have k' := k p e s m args below meth c D cA ros fm A n0 ad0 QW ad H locs ls C hR hS hn0 ha hl
  refine W.eq (g2 := F0 m pc ls (.ref (ad x.toNat) :: st.map (cv ad ros fm))) (by rw [List.map_cons, cv_ref hc.1]) ?_
  exact va_alen (D := D) (v := Int32.ofInt (len : Int)) hx hb hK hR.1 x.toNat 2 (ent_i hc (by omega)) (ty := .byte) rfl (by rw [Int32.ofInt_eq_ofNat]) hd k'
def kSt (own : String) (idx i : Nat) : Prop := Cond.fieldLink own idx (stC i) (stN i) "[I" ∈ wsA
def kStN (own : String) (idx i : Nat) : Prop := ∃ host, Cond.fieldLinkNest own idx (stC i) (stN i) "[I" host ∈ nestW
theorem ro_len {K : Launch × Nat × (Nat → Int)} (h : roLen K 0 < 2 ^ 31) : ∀ i, roLen K i < 2 ^ 31
  | 0 => h
  | 1 => by show 6 < 2 ^ 31; decide
  | 2 => by show 6 < 2 ^ 31; decide
  | 3 => by show 7 < 2 ^ 31; decide
  | 4 => by show 21 < 2 ^ 31; decide
  | k + 5 => by show 7 < 2 ^ 31; decide
theorem R_roload {K : Launch × Nat × (Nat → Int)} {d : Nat} {y : mth} {kc ks pc pc' : Nat} {L st : List av} {G : hp} {Q : hp → av → Prop} {i : Nat} {j : Int} (hd : decode y.2.1 pc = .ok (.iaload, 1)) (h6 : i < 6) (h0 : 0 ≤ j) (h1 : j < roLen K i) (hn : pc + 1 = pc') (k : WP K d y kc ks pc' L ((0, roC K i j.toNat) :: st) G Q) : WP K d y kc ks pc L ((0, j) :: (3, (i : Int)) :: st) G Q := by
  subst hn
  intro p e s m args below meth c D cA ros fm A n0 ad0 QW ad H locs ls C hR hS hn0 ha hl
  obtain ⟨⟨hx, hb, hml, hr, hlk, hown, hmn, hts, hnw⟩, hK, hSW, hA, hRC⟩ := id C
  have k' := k p e s m args below meth c D cA ros fm A n0 ad0 QW ad H locs ls C hR hS hn0 ha hl
  have hlen := ro_len hSW.2.2.2.2.2.2.2 i
  exact va_ti hx hb (i := Int32.ofInt j) (v := .int (Int32.ofInt (roC K i j.toNat))) (hSW.1 i h6) hS (i_in h0 h1 (by omega)) (by rw [i_clamp h0 (by omega)]) hd k'
theorem R_rolen {K : Launch × Nat × (Nat → Int)} {d : Nat} {y : mth} {kc ks pc pc' : Nat} {L st : List av} {G : hp} {Q : hp → av → Prop} {i : Nat} (hd : decode y.2.1 pc = .ok (.arraylength, 1)) (h6 : i < 6) (hn : pc + 1 = pc') (k : WP K d y kc ks pc' L ((0, (roLen K i : Int)) :: st) G Q) : WP K d y kc ks pc L ((3, (i : Int)) :: st) G Q := by
  subst hn
  intro p e s m args below meth c D cA ros fm A n0 ad0 QW ad H locs ls C hR hS hn0 ha hl
  obtain ⟨⟨hx, hb, hml, hr, hlk, hown, hmn, hts, hnw⟩, hK, hSW, hA, hRC⟩ := id C
  have k' := k p e s m args below meth c D cA ros fm A n0 ad0 QW ad H locs ls C hR hS hn0 ha hl
  exact va_tlen hx hb (v := Int32.ofInt (roLen K i : Int)) (hSW.1 i h6) hS (by rw [Int32.ofInt_eq_ofNat]) hd k'
theorem R_gets {K : Launch × Nat × (Nat → Int)} {d : Nat} {y : mth} {kc ks pc pc' : Nat} {L st : List av} {G : hp} {Q : hp → av → Prop} {idx i : Nat} (hd : decode y.2.1 pc = .ok (.getstatic idx, 3)) (hw : kSt y.1.cls idx i) (h1 : 1 ≤ i) (h6 : i < 6) (hn : pc + 3 = pc') (k : WP K d y kc ks pc' L ((3, (i : Int)) :: st) G Q) : WP K d y kc ks pc L (st) G Q := by
  subst hn
  intro p e s m args below meth c D cA ros fm A n0 ad0 QW ad H locs ls C hR hS hn0 ha hl
  obtain ⟨⟨hx, hb, hml, hr, hlk, hown, hmn, hts, hnw⟩, hK, hSW, hA, hRC⟩ := id C
  have k' := k p e s m args below meth c D cA ros fm A n0 ad0 QW ad H locs ls C hR hS hn0 ha hl
  exact va_gets hx hb (hSW.2.1 i h1 h6) hS hown (hts _ hw) (fun _ h => h) hd k'
theorem R_getsN {K : Launch × Nat × (Nat → Int)} {d : Nat} {y : mth} {kc ks pc pc' : Nat} {L st : List av} {G : hp} {Q : hp → av → Prop} {idx i : Nat} (hd : decode y.2.1 pc = .ok (.getstatic idx, 3)) (hw : kStN y.1.cls idx i) (h1 : 1 ≤ i) (h6 : i < 6) (hn : pc + 3 = pc') (k : WP K d y kc ks pc' L ((3, (i : Int)) :: st) G Q) : WP K d y kc ks pc L (st) G Q := by
  subst hn
  intro p e s m args below meth c D cA ros fm A n0 ad0 QW ad H locs ls C hR hS hn0 ha hl
  obtain ⟨⟨hx, hb, hml, hr, hlk, hown, hmn, hts, hnw⟩, hK, hSW, hA, hRC⟩ := id C
  have k' := k p e s m args below meth c D cA ros fm A n0 ad0 QW ad H locs ls C hR hS hn0 ha hl
  obtain ⟨host, hw⟩ := hw
  exact va_getsN hx hb (hSW.2.1 i h1 h6) hS hown (va_Nw.use rfl (hnw _ hw)) (fun _ h => h) hd k'
theorem R_getsC {K : Launch × Nat × (Nat → Int)} {d : Nat} {y : mth} {kc ks pc pc' : Nat} {L st : List av} {G : hp} {Q : hp → av → Prop} {idx : Nat} (hd : decode y.2.1 pc = .ok (.getstatic idx, 3)) (hw : Cond.fieldLink y.1.cls idx "java/lang/String" "COMPACT_STRINGS" "Z" ∈ wsA) (hn : pc + 3 = pc') (k : WP K d y kc ks pc' L ((0, 1) :: st) G Q) : WP K d y kc ks pc L (st) G Q := by
  subst hn
  intro p e s m args below meth c D cA ros fm A n0 ad0 QW ad H locs ls C hR hS hn0 ha hl
  obtain ⟨⟨hx, hb, hml, hr, hlk, hown, hmn, hts, hnw⟩, hK, hSW, hA, hRC⟩ := id C
  have k' := k p e s m args below meth c D cA ros fm A n0 ad0 QW ad H locs ls C hR hS hn0 ha hl
  exact va_gets hx hb hSW.2.2.1 hS hown (hts _ hw) (fun _ h => h) hd k'
theorem R_getsF {K : Launch × Nat × (Nat → Int)} {d : Nat} {y : mth} {kc ks pc pc' : Nat} {L st : List av} {G : hp} {Q : hp → av → Prop} {idx : Nat} (hd : decode y.2.1 pc = .ok (.getstatic idx, 3)) (hw : Cond.fieldLink y.1.cls idx "jdk/internal/util/Preconditions" "SIOOBE_FORMATTER" "Ljava/util/function/BiFunction;" ∈ wsA) (hn : pc + 3 = pc') (k : WP K d y kc ks pc' L ((4, 0) :: st) G Q) : WP K d y kc ks pc L (st) G Q := by
  subst hn
  intro p e s m args below meth c D cA ros fm A n0 ad0 QW ad H locs ls C hR hS hn0 ha hl
  obtain ⟨⟨hx, hb, hml, hr, hlk, hown, hmn, hts, hnw⟩, hK, hSW, hA, hRC⟩ := id C
  have k' := k p e s m args below meth c D cA ros fm A n0 ad0 QW ad H locs ls C hR hS hn0 ha hl
  exact va_gets hx hb hSW.2.2.2.1 hS hown (hts _ hw) (fun _ h => h) hd k'
theorem R_ldcS {K : Launch × Nat × (Nat → Int)} {d : Nat} {y : mth} {kc ks pc pc' : Nat} {L st : List av} {G : hp} {Q : hp → av → Prop} {i : Nat} (hd : decode y.2.1 pc = .ok (.ldc (76 + 2 * i), 2)) (hy : y.1.cls = RX4) (h4 : i < 4) (hn : pc + 2 = pc') (k : WP K d y kc ks pc' L ((3, ((6 + i : Nat) : Int)) :: st) G Q) : WP K d y kc ks pc L (st) G Q := by
  subst hn
  intro p e s m args below meth c D cA ros fm A n0 ad0 QW ad H locs ls C hR hS hn0 ha hl
  obtain ⟨⟨hx, hb, hml, hr, hlk, hown, hmn, hts, hnw⟩, hK, hSW, hA, hRC⟩ := id C
  have k' := k p e s m args below meth c D cA ros fm A n0 ad0 QW ad H locs ls C hR hS hn0 ha hl
  exact va_ldcS hx hb hown (by rw [hy]; exact hSW.2.2.2.2.2.1 i h4) hd k'
theorem R_strV {K : Launch × Nat × (Nat → Int)} {d : Nat} {y : mth} {kc ks pc pc' : Nat} {L st : List av} {G : hp} {Q : hp → av → Prop} {idx i : Nat} (hd : decode y.2.1 pc = .ok (.getfield idx, 3)) (hw : Cond.fieldLink y.1.cls idx "java/lang/String" "value" "[B" ∈ wsA) (h4 : i < 4) (hn : pc + 3 = pc') (k : WP K d y kc ks pc' L ((3, ((10 + i : Nat) : Int)) :: st) G Q) : WP K d y kc ks pc L ((3, ((6 + i : Nat) : Int)) :: st) G Q := by
  subst hn
  intro p e s m args below meth c D cA ros fm A n0 ad0 QW ad H locs ls C hR hS hn0 ha hl
  obtain ⟨⟨hx, hb, hml, hr, hlk, hown, hmn, hts, hnw⟩, hK, hSW, hA, hRC⟩ := id C
  have k' := k p e s m args below meth c D cA ros fm A n0 ad0 QW ad H locs ls C hR hS hn0 ha hl
  exact vk_getf hx hb (hSW.2.2.2.2.1.1 i h4).2.2.1 hS hown (hts _ hw) (fun _ h => h) hd k'
theorem R_strK {K : Launch × Nat × (Nat → Int)} {d : Nat} {y : mth} {kc ks pc pc' : Nat} {L st : List av} {G : hp} {Q : hp → av → Prop} {idx i : Nat} (hd : decode y.2.1 pc = .ok (.getfield idx, 3)) (hw : Cond.fieldLink y.1.cls idx "java/lang/String" "coder" "B" ∈ wsA) (h4 : i < 4) (hn : pc + 3 = pc') (k : WP K d y kc ks pc' L ((0, 0) :: st) G Q) : WP K d y kc ks pc L ((3, ((6 + i : Nat) : Int)) :: st) G Q := by
  subst hn
  intro p e s m args below meth c D cA ros fm A n0 ad0 QW ad H locs ls C hR hS hn0 ha hl
  obtain ⟨⟨hx, hb, hml, hr, hlk, hown, hmn, hts, hnw⟩, hK, hSW, hA, hRC⟩ := id C
  have k' := k p e s m args below meth c D cA ros fm A n0 ad0 QW ad H locs ls C hR hS hn0 ha hl
  exact vk_getf hx hb (hSW.2.2.2.2.1.1 i h4).2.1 hS hown (hts _ hw) (fun _ h => h) hd k'
theorem R_strN {K : Launch × Nat × (Nat → Int)} {d : Nat} {y : mth} {kc ks pc pc' : Nat} {L st : List av} {G : hp} {Q : hp → av → Prop} {i : Nat} (hd : decode y.2.1 pc = .ok (.arraylength, 1)) (h4 : i < 4) (hn : pc + 1 = pc') (k : WP K d y kc ks pc' L ((0, ((strLen.getD i 0 : Nat) : Int)) :: st) G Q) : WP K d y kc ks pc L ((3, ((10 + i : Nat) : Int)) :: st) G Q := by
  subst hn
  intro p e s m args below meth c D cA ros fm A n0 ad0 QW ad H locs ls C hR hS hn0 ha hl
  obtain ⟨⟨hx, hb, hml, hr, hlk, hown, hmn, hts, hnw⟩, hK, hSW, hA, hRC⟩ := id C
  have k' := k p e s m args below meth c D cA ros fm A n0 ad0 QW ad H locs ls C hR hS hn0 ha hl
  exact va_tlen hx hb (v := Int32.ofInt ((strLen.getD i 0 : Nat) : Int)) (hSW.2.2.2.2.1.1 i h4).2.2.2 hS (by rw [Int32.ofInt_eq_ofNat]) hd k'
theorem R_strB {K : Launch × Nat × (Nat → Int)} {d : Nat} {y : mth} {kc ks pc pc' : Nat} {L st : List av} {G : hp} {Q : hp → av → Prop} {i : Nat} {j : Int} (hd : decode y.2.1 pc = .ok (.baload, 1)) (h4 : i < 4) (h0 : 0 ≤ j) (h1 : j < (strLen.getD i 0 : Nat)) (hn : pc + 1 = pc') (k : WP K d y kc ks pc' L ((0, (strB.getD i []).getD j.toNat 0) :: st) G Q) : WP K d y kc ks pc L ((0, j) :: (3, ((10 + i : Nat) : Int)) :: st) G Q := by
  subst hn
  intro p e s m args below meth c D cA ros fm A n0 ad0 QW ad H locs ls C hR hS hn0 ha hl
  obtain ⟨⟨hx, hb, hml, hr, hlk, hown, hmn, hts, hnw⟩, hK, hSW, hA, hRC⟩ := id C
  have k' := k p e s m args below meth c D cA ros fm A n0 ad0 QW ad H locs ls C hR hS hn0 ha hl
  have hlen : strLen.getD i 0 ≤ 7 := (show ∀ i, i < 4 → strLen.getD i 0 ≤ 7 by decide) i h4
  have hby : (strByt.getD i []).getD j.toNat 0 = Int32.ofInt ((strB.getD i []).getD j.toNat 0) := (show ∀ i, i < 4 → ∀ k, k < 7 → (strByt.getD i []).getD k 0 = Int32.ofInt ((strB.getD i []).getD k 0) by decide) i h4 j.toNat (by omega)
  exact va_tb hx hb (i := Int32.ofInt j) (v := .int (Int32.ofInt ((strB.getD i []).getD j.toNat 0))) (hSW.2.2.2.2.1.1 i h4).2.2.2 hS (i_in h0 h1 (by omega)) (by rw [i_clamp h0 (by omega), hby]) hd k'
