/-! RULES: calls, new cells, copies -/
def okR (n : Nat) (l : List av) : Prop := ∀ v ∈ l, v.1 = 2 → v.2 < n
def pv (v : av) (st : List av) : List av := if v.1 = 8 then st else v :: st
theorem cr_eq {n : Nat} {ad ad' : Nat → Nat} {x : Int} (h : ∀ k, k < n → ad' k = ad k) (hx : x < n) : cr ad' x = cr ad x := by
  unfold cr
  split
  · rfl
  · rw [h _ (by omega)]
theorem cv_eq {n : Nat} {ad ad' ros : Nat → Nat} {fm : Value} {v : av} (h : ∀ k, k < n → ad' k = ad k) (hv : v.1 = 2 → v.2 < n) : cv ad' ros fm v = cv ad ros fm v := by
  obtain ⟨t, x⟩ := v
  match t with
  | 0 => rfl
  | 1 => rfl
  | 2 => show va_rf (cr ad' x) = va_rf (cr ad x); rw [cr_eq h (hv rfl)]
  | 3 => rfl
  | 4 => rfl
  | k + 5 => rfl
theorem map_eq {n : Nat} {ad ad' ros : Nat → Nat} {fm : Value} {l : List av} (h : ∀ k, k < n → ad' k = ad k) (hl : okR n l) : l.map (cv ad' ros fm) = l.map (cv ad ros fm) :=
  List.map_congr_left fun v hv => cv_eq h (hl v hv)
theorem Lok.ad {n nL : Nat} {ad ad' ros : Nat → Nat} {fm : Value} {L : List av} {ls : Array Slot} (h : ∀ k, k < n → ad' k = ad k) (hl : okR n L) (hk : Lok (cv ad ros fm) nL L ls) : Lok (cv ad' ros fm) nL L ls :=
  ⟨hk.1, hk.2.1, fun i v hi h9 => by rw [cv_eq h (hl v (List.mem_of_getElem? hi))]; exact hk.2.2 i v hi h9⟩
theorem call_fin {K : Launch × Nat × (Nat → Int)} {d : Nat} {y : mth} {kc ks mc ms pc pc' : Nat} {L st : List av} {st0 : List Value} {G : hp} {Q : hp → av → Prop} {p : Program} {e : Env} {s : State} {m : MethodId} {args : Array Value} {below : List Frame} {meth : Method} {c : Code} {D : va_G} {cA : Nat → ClassId} {ros : Nat → Nat} {fm : Value} {A : Nat → Prop} {n0 : Nat} {ad0 : Nat → Nat} {QW : State → Prop} {ad : Nat → Nat} {H : Heap} {locs : List Loc} {ls : Array Slot} {aargs : Array Value} (hn : pc + 3 = pc')
    (hr : va_Run p K.1 e (rmd d y) s m args below meth c H locs kc ks mc ms (F0 m pc ls st0) (st.map (cv ad ros fm)) (cPost mc D cA ad ros fm A G (fun G' v => WP K d y (kc + mc) (ks + ms) pc' L (pv v st) G' Q) aargs) A)
    (C : Cx K d y Q p e s m args below meth c D cA ros fm A n0 ad0 QW) (hS : va_S A s.heap H locs) (hn0 : n0 ≤ G.1) (ha : ∀ k, k < n0 ∨ y.2.2.2.2.1 = 0 → ad k = ad0 k) (hl : Lok (cv ad ros fm) y.2.2.1 L ls) (hm : kc + mc ≤ y.2.2.2.2.1) (hval : mc = 0 ∨ (okR G.1 L ∧ okR G.1 st)) :
    W p K.1 e (rmd d y) s m args below meth c H locs kc ks QW (F0 m pc ls st0) := by
  subst hn
  intro T hT X
  obtain ⟨v, st₀, t, T', L', h0, X', hL, e1, e2, ⟨⟨G', v', ad', hv, hQ, hle, had, hRH⟩, hF⟩, hst⟩ := hr T hT X
  cases hv
  have hl' : Lok (cv ad' ros fm) y.2.2.1 L ls := by
    rcases hval with hz | ⟨h1, -⟩
    · have : ad' = ad := funext fun k => had k (Or.inr hz)
      rw [this]; exact hl
    · exact hl.ad (fun k hk => had k (Or.inl hk)) h1
  have hst' : st.map (cv ad' ros fm) = st.map (cv ad ros fm) := by
    rcases hval with hz | ⟨-, h2⟩
    · have : ad' = ad := funext fun k => had k (Or.inr hz)
      rw [this]
    · exact map_eq (fun k hk => had k (Or.inl hk)) h2
  have ha' : ∀ k, k < n0 ∨ y.2.2.2.2.1 = 0 → ad' k = ad0 k := by
    intro k hk
    rw [← ha k hk]
    rcases hk with hk | hk
    · exact had k (Or.inl (by omega))
    · exact had k (Or.inr (by omega))
  have hS' : va_S A s.heap T'.heap (locs ++ L') := by
    obtain ⟨f1, f2⟩ := hF
    rw [h0] at f1 f2
    refine ⟨Nat.le_trans hS.1 (by rw [e1]; exact f1), fun q h1 h2 => by rw [e1, f2 q (Nat.lt_of_lt_of_le h1 hS.1) h2]; exact hS.2.1 q h1 h2, fun q hq => ?_⟩
    rcases List.mem_append.mp hq with h | h
    · exact hS.2.2 q h
    · exact hL q h
  have K2 := hQ p e s m args below meth c D cA ros fm A n0 ad0 QW ad' T'.heap (locs ++ L') ls C (by rw [e1]; exact hRH) hS' (by omega) ha' hl'
  obtain ⟨t2, a1, b1⟩ := K2 T' rfl X'
  refine ⟨t2, hst t2 ?_, b1⟩
  have ef : ({ F0 m pc ls st0 with pc := (F0 m pc ls st0).pc + 3, stack := (rvo (cv ad' ros fm v') v').toList ++ st.map (cv ad ros fm) } : JFrame) = F0 m (pc + 3) ls ((pv v' st).map (cv ad' ros fm)) := by
    unfold rvo pv
    split
    · rw [hst']; rfl
    · rw [List.map_cons, hst']; rfl
  rw [ef]
  exact a1
def kY (y : mth) (n : Nat) : Prop := Cond.code y.1 y.2.1 y.2.2.1 y.2.2.2.1 ∈ wsA ∧ Cond.initialized y.1.cls ∈ wsA ∧ (y.1.cls ≠ "java/lang/invoke/MethodHandle" ∧ y.1.cls ≠ "java/lang/invoke/VarHandle" ∧ (parseMethodDescriptor y.1.desc).map (fun d => d.parameters.length) = some n) ∧ y.2.2.1 ≤ 22
def kV (own : String) (idx : Nat) (y : mth) (n : Nat) : Prop := kY y n ∧ Cond.methodLink own idx y.1 ∈ wsA ∧ Cond.instanceMethod y.1 ∈ wsA ∧ Cond.selects y.1.cls y.1 y.1 ∈ wsA
def kS (own : String) (idx : Nat) (y : mth) (n : Nat) : Prop := kY y n ∧ Cond.methodLink own idx y.1 ∈ wsA ∧ Cond.static y.1 ∈ wsA
def kI (own : String) (idx : Nat) (y : mth) (n : Nat) : Prop := kY y n ∧ Cond.methodLink own idx y.1 ∈ wsA ∧ y.1.name = "<init>" ∧ Cond.instanceMethod y.1 ∈ wsA ∧ y.2.2.2.1 = none
def kSN (own : String) (idx : Nat) (y : mth) (n : Nat) : Prop := kY y n ∧ (∃ host, Cond.methodLinkNest own idx y.1 host ∈ nestW) ∧ Cond.static y.1 ∈ wsA
def kIN (own : String) (idx : Nat) (y : mth) (n : Nat) : Prop := kY y n ∧ (∃ host, Cond.methodLinkNest own idx y.1 host ∈ nestW) ∧ y.1.name = "<init>" ∧ Cond.instanceMethod y.1 ∈ wsA ∧ y.2.2.2.1 = none
theorem good_A : ∀ w ∈ wsA, w ∈ wsA ∧ ((w.onTables && w.keeps) = true ∨ ∃ ty, w = .arrayClass ty) := fun w hw => ⟨hw, good_of_word (List.mem_filter.mp hw).2⟩
theorem pre_of {K : Launch × Nat × (Nat → Int)} {D : va_G} {cA : Nat → ClassId} {ad ros : Nat → Nat} {fm : Value} {A : Nat → Prop} {vs : List av} {G : hp} {s : State} {H : Heap} {locs : List Loc} (hSW : SW K ros fm A s s.heap) (hS : va_S A s.heap H locs) (hR : RH D cA ad A G H) (hK : va_K D vwCl (tyl cA) s) (hA : ∀ q, s.heap.size ≤ q → A q) (hnw : ∀ w ∈ nestW, va_Nw w s) :
    ∀ U : State, U.heap = H → s.WarmedH U.vm → cPre K D cA ad ros fm A vs G (vs.map (cv ad ros fm)).toArray U := by
  intro U hU hW
  refine ⟨rfl, ?_, by rw [hU]; exact hR, va_K.moved hW.alike hK, fun q hq => hA q (Nat.le_trans hS.1 (by rw [hU] at hq; exact hq)), fun w hw => nest_warm (List.mem_filter.mp hw).2 hW (hnw w hw)⟩
  rw [hU]
  exact SW.warm hW (hSW.kept (fun a h1 h2 => hS.2.1 a h1 h2))
theorem hw8 {ad ros : Nat → Nat} {fm : Value} (hf : fm = .null ∨ ∃ a, fm = .ref a) {m : MethodId} {pc : Nat} {ls : Array Slot} {r : List Value} {st : List av} (h : (st.map avc).sum ≤ 8) : 2 * (F0 m pc ls r).monitorRoom + ((st.map (cv ad ros fm)).map fun v => v.category).sum ≤ 8 := by
  rw [cat_sum hf]
  exact Nat.le_trans (Nat.le_of_eq (by show 2 * 0 + _ = _; omega)) h
theorem arg_rev {ad ros : Nat → Nat} {fm : Value} {vs st : List av} : (vs.reverse ++ st).map (cv ad ros fm) = (vs.map (cv ad ros fm)).reverse ++ st.map (cv ad ros fm) := by
  rw [List.map_append, List.map_reverse]

theorem R_callV {K : Launch × Nat × (Nat → Int)} {d : Nat} {y : mth} {kc ks pc pc' : Nat} {L st : List av} {G : hp} {Q : hp → av → Prop} {y' : mth} {vs : List av} {idx n : Nat} {x : Int} {ci len : Nat} (hd : decode y.2.1 pc = .ok (.invokevirtual idx, 3)) (hk : kV y.1.cls idx y' n) (hc : isC G x ci len) (h10 : ci < 10) (hcl : clsN ci = y'.1.cls) (hn : vs.length = n) (hst : (st.map avc).sum ≤ 8) (hm : kc + y'.2.2.2.2.1 ≤ y.2.2.2.2.1) (hm2 : ks + y'.2.2.2.2.2 ≤ y.2.2.2.2.2) (hval : y'.2.2.2.2.1 = 0 ∨ (okR G.1 L ∧ okR G.1 st)) (hpc : pc + 3 = pc') (hM : CM K d y' ((2, x) :: vs) G (fun G' v => WP K (d + 1) y (kc + y'.2.2.2.2.1) (ks + y'.2.2.2.2.2) pc' L (pv v st) G' Q)) : WP K (d + 1) y kc ks pc L (vs.reverse ++ (2, x) :: st) G Q := by
  intro p e s m args below meth c D cA ros fm A n0 ad0 QW ad H locs ls C hR hS hn0 ha hl
  obtain ⟨⟨hx, hb, hml, hr, hlk, hown, hmn, hts, hnw⟩, hK, hSW, hA, hRC⟩ := id C
  have hfm := hSW.2.2.2.2.2.2.1
  obtain ⟨⟨h1, h2, h3, h4⟩, hlk2, hin, hse⟩ := hk
  have h0 := hc.1
  have hcx : cv ad ros fm (2, x) = .ref (ad x.toNat) := cv_ref h0
  refine call_fin (aargs := #[]) hpc (st := st) (mc := y'.2.2.2.2.1) (ms := y'.2.2.2.2.2) ?_ C hS hn0 ha hl hm hval
  exact va_runV (As := vs.map (cv ad ros fm)) (rest := st.map (cv ad ros fm)) ⟨hx, hb, hml, hown, hts⟩ (hM D cA ad ros fm A) ⟨⟨rfl, rfl, Nat.le_refl _, (by show 8 + (y'.2.2.1 + 11) + (41 * d + 32) ≤ 41 * (d + 1) + 32; omega), pay_in hts (good_Y h1), List.mem_cons_self, hts _ h1, hts _ h2, ⟨h3.1, h3.2.1⟩, (fun sig h => by have h9 := h3.2.2; rw [h] at h9; exact (Option.some.inj h9).symm), hts _ hlk2⟩, hts _ hin, hts _ hse⟩ ⟨cPre_blind, by rw [← hcl]; exact va_recv hK hR.1 (vwCl_at ci h10) (ent_obj hc h10), fun U hU hW => by have := pre_of (vs := (2, x) :: vs) hSW hS hR hK hA hnw U hU hW; rw [List.map_cons, hcx] at this; exact this⟩ rfl (by rw [List.length_map]; exact hn) hl.1 (by show List.map _ _ = _; rw [arg_rev]; rw [List.map_cons, hcx]) (hw8 hfm hst) hd ⟨hm, hm2⟩
theorem R_callS {K : Launch × Nat × (Nat → Int)} {d : Nat} {y : mth} {kc ks pc pc' : Nat} {L st : List av} {G : hp} {Q : hp → av → Prop} {y' : mth} {vs : List av} {idx n : Nat} (hd : decode y.2.1 pc = .ok (.invokestatic idx, 3)) (hk : kS y.1.cls idx y' n)  (hn : vs.length = n) (hst : (st.map avc).sum ≤ 8) (hm : kc + y'.2.2.2.2.1 ≤ y.2.2.2.2.1) (hm2 : ks + y'.2.2.2.2.2 ≤ y.2.2.2.2.2) (hval : y'.2.2.2.2.1 = 0 ∨ (okR G.1 L ∧ okR G.1 st)) (hpc : pc + 3 = pc') (hM : CM K d y' vs G (fun G' v => WP K (d + 1) y (kc + y'.2.2.2.2.1) (ks + y'.2.2.2.2.2) pc' L (pv v st) G' Q)) : WP K (d + 1) y kc ks pc L (vs.reverse ++ st) G Q := by
  intro p e s m args below meth c D cA ros fm A n0 ad0 QW ad H locs ls C hR hS hn0 ha hl
  obtain ⟨⟨hx, hb, hml, hr, hlk, hown, hmn, hts, hnw⟩, hK, hSW, hA, hRC⟩ := id C
  have hfm := hSW.2.2.2.2.2.2.1
  obtain ⟨⟨h1, h2, h3, h4⟩, hlk2, hse⟩ := hk
  refine call_fin (aargs := #[]) hpc (st := st) (mc := y'.2.2.2.2.1) (ms := y'.2.2.2.2.2) ?_ C hS hn0 ha hl hm hval
  exact va_runS (As := vs.map (cv ad ros fm)) (rest := st.map (cv ad ros fm)) ⟨hx, hb, hml, hown, hts⟩ (hM D cA ad ros fm A) ⟨⟨rfl, rfl, Nat.le_refl _, (by show 8 + (y'.2.2.1 + 11) + (41 * d + 32) ≤ 41 * (d + 1) + 32; omega), pay_in hts (good_Y h1), List.mem_cons_self, hts _ h1, hts _ h2, ⟨h3.1, h3.2.1⟩, (fun sig h => by have h9 := h3.2.2; rw [h] at h9; exact (Option.some.inj h9).symm), hts _ hlk2⟩, hts _ hse⟩ ⟨cPre_blind, pre_of (vs := vs) hSW hS hR hK hA hnw⟩ rfl (by rw [List.length_map]; exact hn) hl.1 (by show List.map _ _ = _; rw [arg_rev]) (hw8 hfm hst) hd ⟨hm, hm2⟩
theorem R_callSN {K : Launch × Nat × (Nat → Int)} {d : Nat} {y : mth} {kc ks pc pc' : Nat} {L st : List av} {G : hp} {Q : hp → av → Prop} {y' : mth} {vs : List av} {idx n : Nat} (hd : decode y.2.1 pc = .ok (.invokestatic idx, 3)) (hk : kSN y.1.cls idx y' n)  (hn : vs.length = n) (hst : (st.map avc).sum ≤ 8) (hm : kc + y'.2.2.2.2.1 ≤ y.2.2.2.2.1) (hm2 : ks + y'.2.2.2.2.2 ≤ y.2.2.2.2.2) (hval : y'.2.2.2.2.1 = 0 ∨ (okR G.1 L ∧ okR G.1 st)) (hpc : pc + 3 = pc') (hM : CM K d y' vs G (fun G' v => WP K (d + 1) y (kc + y'.2.2.2.2.1) (ks + y'.2.2.2.2.2) pc' L (pv v st) G' Q)) : WP K (d + 1) y kc ks pc L (vs.reverse ++ st) G Q := by
  intro p e s m args below meth c D cA ros fm A n0 ad0 QW ad H locs ls C hR hS hn0 ha hl
  obtain ⟨⟨hx, hb, hml, hr, hlk, hown, hmn, hts, hnw⟩, hK, hSW, hA, hRC⟩ := id C
  have hfm := hSW.2.2.2.2.2.2.1
  obtain ⟨⟨h1, h2, h3, h4⟩, ⟨host, hlk2⟩, hse⟩ := hk
  refine call_fin (aargs := #[]) hpc (st := st) (mc := y'.2.2.2.2.1) (ms := y'.2.2.2.2.2) ?_ C hS hn0 ha hl hm hval
  exact va_runSN (host := host) (As := vs.map (cv ad ros fm)) (rest := st.map (cv ad ros fm)) ⟨hx, hb, hml, hown, hts⟩ (hM D cA ad ros fm A) ⟨⟨⟨rfl, rfl, Nat.le_refl _, (by show 8 + (y'.2.2.1 + 11) + (41 * d + 32) ≤ 41 * (d + 1) + 32; omega), pay_in hts (good_Y h1), List.mem_cons_self⟩, hts _ h1, hts _ h2, ⟨h3.1, h3.2.1⟩, (fun sig h => by have h9 := h3.2.2; rw [h] at h9; exact (Option.some.inj h9).symm), va_Nw.use rfl (hnw _ hlk2)⟩, hts _ hse, trivial⟩ ⟨cPre_blind, pre_of (vs := vs) hSW hS hR hK hA hnw⟩ rfl (by rw [List.length_map]; exact hn) hl.1 (by show List.map _ _ = _; rw [arg_rev]) (hw8 hfm hst) hd ⟨hm, hm2⟩
theorem R_callI {K : Launch × Nat × (Nat → Int)} {d : Nat} {y : mth} {kc ks pc pc' : Nat} {L st : List av} {G : hp} {Q : hp → av → Prop} {y' : mth} {vs : List av} {idx n : Nat} {x : Int} (hd : decode y.2.1 pc = .ok (.invokespecial idx, 3)) (hk : kI y.1.cls idx y' n) (h0 : 0 ≤ x) (hn : vs.length = n) (hst : (st.map avc).sum ≤ 8) (hm : kc + y'.2.2.2.2.1 ≤ y.2.2.2.2.1) (hm2 : ks + y'.2.2.2.2.2 ≤ y.2.2.2.2.2) (hval : y'.2.2.2.2.1 = 0 ∨ (okR G.1 L ∧ okR G.1 st)) (hpc : pc + 3 = pc') (hM : CM K d y' ((2, x) :: vs) G (fun G' v => WP K (d + 1) y (kc + y'.2.2.2.2.1) (ks + y'.2.2.2.2.2) pc' L (pv v st) G' Q)) : WP K (d + 1) y kc ks pc L (vs.reverse ++ (2, x) :: st) G Q := by
  intro p e s m args below meth c D cA ros fm A n0 ad0 QW ad H locs ls C hR hS hn0 ha hl
  obtain ⟨⟨hx, hb, hml, hr, hlk, hown, hmn, hts, hnw⟩, hK, hSW, hA, hRC⟩ := id C
  have hfm := hSW.2.2.2.2.2.2.1
  obtain ⟨⟨h1, h2, h3, h4⟩, hlk2, hnm, hin, hrt⟩ := hk
  have hcx : cv ad ros fm (2, x) = .ref (ad x.toNat) := cv_ref h0
  refine call_fin (aargs := #[]) hpc (st := st) (mc := y'.2.2.2.2.1) (ms := y'.2.2.2.2.2) ?_ C hS hn0 ha hl hm hval
  have hCB : CallB (rmd (d + 1) y) s args y.1.cls idx y'.1 y'.2.1 y'.2.2.1 none (wsY y') (rmd d y') y'.2.2.2.2.1 y'.2.2.2.2.2 n := by
    have := (⟨rfl, rfl, Nat.le_refl _, (by show 8 + (y'.2.2.1 + 11) + (41 * d + 32) ≤ 41 * (d + 1) + 32; omega), pay_in hts (good_Y h1), List.mem_cons_self, hts _ h1, hts _ h2, ⟨h3.1, h3.2.1⟩, (fun sig h => by have h9 := h3.2.2; rw [h] at h9; exact (Option.some.inj h9).symm), hts _ hlk2⟩ : CallB (rmd (d + 1) y) s args y.1.cls idx y'.1 y'.2.1 y'.2.2.1 y'.2.2.2.1 (wsY y') (rmd d y') y'.2.2.2.2.1 y'.2.2.2.2.2 n)
    rwa [hrt] at this
  exact va_runI (As := vs.map (cv ad ros fm)) (rest := st.map (cv ad ros fm)) ⟨hx, hb, hml, hown, hts⟩ (hM D cA ad ros fm A) ⟨hCB, hnm, hts _ hin⟩ ⟨cPre_blind, fun U hU hW => by have := pre_of (vs := (2, x) :: vs) hSW hS hR hK hA hnw U hU hW; rw [List.map_cons, hcx] at this; exact this⟩ rfl (by rw [List.length_map]; exact hn) hl.1 (by show List.map _ _ = _; rw [arg_rev]; rw [List.map_cons, hcx]) (hw8 hfm hst) hd ⟨hm, hm2⟩
theorem R_callIN {K : Launch × Nat × (Nat → Int)} {d : Nat} {y : mth} {kc ks pc pc' : Nat} {L st : List av} {G : hp} {Q : hp → av → Prop} {y' : mth} {vs : List av} {idx n : Nat} {x : Int} (hd : decode y.2.1 pc = .ok (.invokespecial idx, 3)) (hk : kIN y.1.cls idx y' n) (h0 : 0 ≤ x) (hn : vs.length = n) (hst : (st.map avc).sum ≤ 8) (hm : kc + y'.2.2.2.2.1 ≤ y.2.2.2.2.1) (hm2 : ks + y'.2.2.2.2.2 ≤ y.2.2.2.2.2) (hval : y'.2.2.2.2.1 = 0 ∨ (okR G.1 L ∧ okR G.1 st)) (hpc : pc + 3 = pc') (hM : CM K d y' ((2, x) :: vs) G (fun G' v => WP K (d + 1) y (kc + y'.2.2.2.2.1) (ks + y'.2.2.2.2.2) pc' L (pv v st) G' Q)) : WP K (d + 1) y kc ks pc L (vs.reverse ++ (2, x) :: st) G Q := by
  intro p e s m args below meth c D cA ros fm A n0 ad0 QW ad H locs ls C hR hS hn0 ha hl
  obtain ⟨⟨hx, hb, hml, hr, hlk, hown, hmn, hts, hnw⟩, hK, hSW, hA, hRC⟩ := id C
  have hfm := hSW.2.2.2.2.2.2.1
  obtain ⟨⟨h1, h2, h3, h4⟩, ⟨host, hlk2⟩, hnm, hin, hrt⟩ := hk
  have hcx : cv ad ros fm (2, x) = .ref (ad x.toNat) := cv_ref h0
  refine call_fin (aargs := #[]) hpc (st := st) (mc := y'.2.2.2.2.1) (ms := y'.2.2.2.2.2) ?_ C hS hn0 ha hl hm hval
  have hCB : va_CN (rmd (d + 1) y) s args y.1.cls idx y'.1 host y'.2.1 y'.2.2.1 none (wsY y') (rmd d y') y'.2.2.2.2.1 y'.2.2.2.2.2 n := by
    have := (⟨⟨rfl, rfl, Nat.le_refl _, (by show 8 + (y'.2.2.1 + 11) + (41 * d + 32) ≤ 41 * (d + 1) + 32; omega), pay_in hts (good_Y h1), List.mem_cons_self⟩, hts _ h1, hts _ h2, ⟨h3.1, h3.2.1⟩, (fun sig h => by have h9 := h3.2.2; rw [h] at h9; exact (Option.some.inj h9).symm), va_Nw.use rfl (hnw _ hlk2)⟩ : va_CN (rmd (d + 1) y) s args y.1.cls idx y'.1 host y'.2.1 y'.2.2.1 y'.2.2.2.1 (wsY y') (rmd d y') y'.2.2.2.2.1 y'.2.2.2.2.2 n)
    rwa [hrt] at this
  exact va_runIN (host := host) (As := vs.map (cv ad ros fm)) (rest := st.map (cv ad ros fm)) ⟨hx, hb, hml, hown, hts⟩ (hM D cA ad ros fm A) ⟨hCB, hnm, hts _ hin⟩ ⟨cPre_blind, fun U hU hW => by have := pre_of (vs := (2, x) :: vs) hSW hS hR hK hA hnw U hU hW; rw [List.map_cons, hcx] at this; exact this⟩ rfl (by rw [List.length_map]; exact hn) hl.1 (by show List.map _ _ = _; rw [arg_rev]; rw [List.map_cons, hcx]) (hw8 hfm hst) hd ⟨hm, hm2⟩
theorem R_callStr {K : Launch × Nat × (Nat → Int)} {d : Nat} {y : mth} {kc ks pc pc' : Nat} {L st : List av} {G : hp} {Q : hp → av → Prop} {y' : mth} {vs : List av} {idx n : Nat} {i : Nat} (hd : decode y.2.1 pc = .ok (.invokevirtual idx, 3)) (hk : kV y.1.cls idx y' n) (h4i : i < 4) (hcl : "java/lang/String" = y'.1.cls) (hn : vs.length = n) (hst : (st.map avc).sum ≤ 8) (hm : kc + y'.2.2.2.2.1 ≤ y.2.2.2.2.1) (hm2 : ks + y'.2.2.2.2.2 ≤ y.2.2.2.2.2) (hval : y'.2.2.2.2.1 = 0 ∨ (okR G.1 L ∧ okR G.1 st)) (hpc : pc + 3 = pc') (hM : CM K d y' ((3, ((6 + i : Nat) : Int)) :: vs) G (fun G' v => WP K (d + 1) y (kc + y'.2.2.2.2.1) (ks + y'.2.2.2.2.2) pc' L (pv v st) G' Q)) : WP K (d + 1) y kc ks pc L (vs.reverse ++ (3, ((6 + i : Nat) : Int)) :: st) G Q := by
  intro p e s m args below meth c D cA ros fm A n0 ad0 QW ad H locs ls C hR hS hn0 ha hl
  obtain ⟨⟨hx, hb, hml, hr, hlk, hown, hmn, hts, hnw⟩, hK, hSW, hA, hRC⟩ := id C
  have hfm := hSW.2.2.2.2.2.2.1
  obtain ⟨⟨h1, h2, h3, h4⟩, hlk2, hin, hse⟩ := hk
  refine call_fin (aargs := #[]) hpc (st := st) (mc := y'.2.2.2.2.1) (ms := y'.2.2.2.2.2) ?_ C hS hn0 ha hl hm hval
  exact va_runV (b := ros (6 + i)) (As := vs.map (cv ad ros fm)) (rest := st.map (cv ad ros fm)) ⟨hx, hb, hml, hown, hts⟩ (hM D cA ad ros fm A) ⟨⟨rfl, rfl, Nat.le_refl _, (by show 8 + (y'.2.2.1 + 11) + (41 * d + 32) ≤ 41 * (d + 1) + 32; omega), pay_in hts (good_Y h1), List.mem_cons_self, hts _ h1, hts _ h2, ⟨h3.1, h3.2.1⟩, (fun sig h => by have h9 := h3.2.2; rw [h] at h9; exact (Option.some.inj h9).symm), hts _ hlk2⟩, hts _ hin, hts _ hse⟩ ⟨cPre_blind, by rw [← hcl]; exact vk_recv (i := i) hSW.2.2.2.2.1 h4i hS, fun U hU hW => pre_of (vs := (3, ((6 + i : Nat) : Int)) :: vs) hSW hS hR hK hA hnw U hU hW⟩ rfl (by rw [List.length_map]; exact hn) hl.1 (by show List.map _ _ = _; rw [arg_rev]; rfl) (hw8 hfm hst) hd ⟨hm, hm2⟩
theorem R_objInit {K : Launch × Nat × (Nat → Int)} {d : Nat} {y : mth} {kc ks pc pc' : Nat} {L st : List av} {G : hp} {Q : hp → av → Prop} {x : Int} {idx : Nat} (hd : decode y.2.1 pc = .ok (.invokespecial idx, 3)) (h0 : 0 ≤ x) (hd1 : 1 ≤ d) (hst : (st.map avc).sum ≤ 8) (hw : Cond.methodLink y.1.cls idx Lib.objectInit ∈ wsA) (hw2 : Cond.instanceMethod Lib.objectInit ∈ wsA) (hw3 : Cond.code Lib.objectInit ⟨#[0xb1]⟩ 1 none ∈ wsA) (hn : pc + 3 = pc') (k : WP K d y kc ks pc' L st G Q) : WP K d y kc ks pc L ((2, x) :: st) G Q := by
  subst hn
  intro p e s m args below meth c D cA ros fm A n0 ad0 QW ad H locs ls C hR hS hn0 ha hl
  obtain ⟨⟨hx, hb, hml, hr, hlk, hown, hmn, hts, hnw⟩, hK, hSW, hA, hRC⟩ := id C
  have k' := k p e s m args below meth c D cA ros fm A n0 ad0 QW ad H locs ls C hR hS hn0 ha hl
  refine W.objInit (a := ad x.toNat) hx hb hown (hts _ hw) (hts _ hw2) (hts _ hw3) rfl (by rw [hml]; exact hl.1) (rest := st.map (cv ad ros fm)) (by show List.map _ _ = _; rw [List.map_cons, cv_ref h0]) hd hd1 (by have := hw8 (ad := ad) (ros := ros) hSW.2.2.2.2.2.2.1 (m := m) (pc := pc) (ls := ls) (r := List.map (cv ad ros fm) ((2, x) :: st)) hst; show _ + 12 ≤ 41 * d + 32; omega) ?_
  exact k'
theorem R_mmax {K : Launch × Nat × (Nat → Int)} {d : Nat} {y : mth} {kc ks pc pc' : Nat} {L st : List av} {G : hp} {Q : hp → av → Prop} {a b : Int} {idx : Nat} (hd : decode y.2.1 pc = .ok (.invokestatic idx, 3)) (hd1 : 1 ≤ d) (h1 : ir a) (h2 : ir b) (hst : (st.map avc).sum ≤ 8) (hc : kc ≤ y.2.2.2.2.1) (hs : ks ≤ y.2.2.2.2.2) (hw : Cond.methodLink y.1.cls idx Lib.Math.max.name ∈ wsA) (hw2 : Cond.static Lib.Math.max.name ∈ wsA) (hw3 : Cond.initialized "java/lang/Math" ∈ wsA) (hw4 : Cond.code Lib.Math.max.name Lib.Math.max.code 2 (some .int) ∈ wsA) (hn : pc + 3 = pc') (k : WP K d y kc ks pc' L ((0, if a < b then b else a) :: st) G Q) : WP K d y kc ks pc L ((0, b) :: (0, a) :: st) G Q := by
  subst hn
  intro p e s m args below meth c D cA ros fm A n0 ad0 QW ad H locs ls C hR hS hn0 ha hl
  obtain ⟨⟨hx, hb, hml, hr, hlk, hown, hmn, hts, hnw⟩, hK, hSW, hA, hRC⟩ := id C
  have k' := k p e s m args below meth c D cA ros fm A n0 ad0 QW ad H locs ls C hR hS hn0 ha hl
  refine va_mmax hx hb (hml.trans hl.1.symm) hown (hts _ hw) (hts _ hw2) (hts _ hw3) (hts _ hw4) hd1 (by rw [cat_sum hSW.2.2.2.2.2.2.1]; show _ + 13 ≤ 41 * d + 32; omega) hc hs (x := Int32.ofInt a) (y := Int32.ofInt b) hd (W.eq ?_ k')
  have e1 := i_lt h1 h2
  show F0 _ _ _ (_ :: _) = F0 _ _ _ (Value.int (Int32.ofInt (if a < b then b else a)) :: _)
  simp only [e1]
  split <;> rfl
theorem R_mmin {K : Launch × Nat × (Nat → Int)} {d : Nat} {y : mth} {kc ks pc pc' : Nat} {L st : List av} {G : hp} {Q : hp → av → Prop} {a b : Int} {idx : Nat} (hd : decode y.2.1 pc = .ok (.invokestatic idx, 3)) (hd1 : 1 ≤ d) (h1 : ir a) (h2 : ir b) (hst : (st.map avc).sum ≤ 8) (hc : kc ≤ y.2.2.2.2.1) (hs : ks ≤ y.2.2.2.2.2) (hw : Cond.methodLink y.1.cls idx Lib.Math.min.name ∈ wsA) (hw2 : Cond.static Lib.Math.min.name ∈ wsA) (hw3 : Cond.initialized "java/lang/Math" ∈ wsA) (hw4 : Cond.code Lib.Math.min.name Lib.Math.min.code 2 (some .int) ∈ wsA) (hn : pc + 3 = pc') (k : WP K d y kc ks pc' L ((0, if b < a then b else a) :: st) G Q) : WP K d y kc ks pc L ((0, b) :: (0, a) :: st) G Q := by
  subst hn
  intro p e s m args below meth c D cA ros fm A n0 ad0 QW ad H locs ls C hR hS hn0 ha hl
  obtain ⟨⟨hx, hb, hml, hr, hlk, hown, hmn, hts, hnw⟩, hK, hSW, hA, hRC⟩ := id C
  have k' := k p e s m args below meth c D cA ros fm A n0 ad0 QW ad H locs ls C hR hS hn0 ha hl
  refine va_mmin hx hb (hml.trans hl.1.symm) hown (hts _ hw) (hts _ hw2) (hts _ hw3) (hts _ hw4) hd1 (by rw [cat_sum hSW.2.2.2.2.2.2.1]; show _ + 13 ≤ 41 * d + 32; omega) hc hs (x := Int32.ofInt a) (y := Int32.ofInt b) hd (W.eq ?_ k')
  have e1 := i_lt h2 h1
  show F0 _ _ _ (_ :: _) = F0 _ _ _ (Value.int (Int32.ofInt (if b < a then b else a)) :: _)
  simp only [e1]
  split <;> rfl
def dfl (kd : Nat) (b : Int) : Int := if refSlot kd b.toNat then -1 else 0
/-- the heap with one more cell, of a kind and length, empty -/
def hnew (G : hp) (kd len : Nat) : hp := (G.1 + 1, (fun k => if k = G.1 then (kd, len) else G.2.1 k), fun a b => if a = (G.1 : Int) then dfl kd b else G.2.2 a b)
def okT : FieldType → Bool
  | .object _ => true
  | .array _ => true
  | .int => true
  | .boolean => true
  | _ => false
theorem fld_okT : ∀ ci, ci < 10 → ∀ k, k < nflds ci → okT (fldT ci k) = true := by decide +kernel
theorem HV.new {G : hp} {kd len : Nat} (h : HV G) : HV (hnew G kd len) := by
  intro k j hk hr
  simp only [hnew] at hk hr ⊢
  by_cases e : k = G.1
  · subst e
    simp only [if_true] at hr ⊢
    simp only [dfl, Int.toNat_natCast, hr, if_true]
    omega
  · have e2 : ¬ ((k : Int) = (G.1 : Int)) := by omega
    simp only [e, e2, if_false] at hr ⊢
    have := h k j (by omega) hr
    omega
theorem ent_ad {ad ad' : Nat → Nat} {cA : Nat → ClassId} {c c' : Int → Int → Int} {k : Nat} {s : Nat × Nat} (h : ∀ j : Nat, c' k j = c k j) (hr : ∀ j : Nat, refSlot s.1 j = true → cr ad' (c k j) = cr ad (c k j)) : ent ad' cA c' k s = ent ad cA c k s := by
  simp only [ent, h]
  by_cases h1 : s.1 < 10
  · simp only [h1, if_true]
    congr 2
    apply List.map_congr_left
    intro j _
    unfold cf
    by_cases h2 : isRefT (fldT s.1 j) = true
    · rw [if_pos h2, if_pos h2, hr j (by simp only [refSlot, h1, if_true, h2])]
    · rw [if_neg h2, if_neg h2]
  · simp only [h1, if_false]
    by_cases h2 : s.1 < 13
    · simp only [h2, if_true]
    · simp only [h2, if_false]
      by_cases h3 : s.1 = 13
      · simp only [h3, if_true]
      · simp only [h3, if_false]
        have h4 : ∀ j : Nat, cr ad' (c k j) = cr ad (c k j) := fun j => hr j (by simp only [refSlot, h1, if_false, show 14 ≤ s.1 from by omega, decide_true])
        simp only [h4]
theorem wl_new {ad : Nat → Nat} {cA : Nat → ClassId} {G : hp} {kd len q : Nat} (h : HV G) :
    wl (fun k => if k = G.1 then q else ad k) cA (hnew G kd len) = wl ad cA G ++ [(q, ent (fun k => if k = G.1 then q else ad k) cA (fun a b => if a = (G.1 : Int) then dfl kd b else G.2.2 a b) G.1 (kd, len))] := by
  unfold wl hnew
  simp only [List.range_succ, List.map_append, List.map_cons, List.map_nil, if_true]
  congr 1
  apply List.map_congr_left
  intro k hk
  have hk := List.mem_range.mp hk
  have e : ¬ k = G.1 := by omega
  have e2 : ¬ ((k : Int) = (G.1 : Int)) := by omega
  simp only [e, if_false, Prod.mk.injEq, true_and]
  refine ent_ad (fun j => by simp only [e2, if_false]) (fun j hj => cr_eq (n := G.1) (fun k' hk' => if_neg (by omega)) (h k j hk hj))
theorem new_fin {K : Launch × Nat × (Nat → Int)} {d : Nat} {y : mth} {kc ks pc : Nat} {L st : List av} {G : hp} {Q : hp → av → Prop} {p : Program} {e : Env} {s : State} {m : MethodId} {args : Array Value} {below : List Frame} {meth : Method} {c : Code} {D : va_G} {cA : Nat → ClassId} {ros : Nat → Nat} {fm : Value} {A : Nat → Prop} {n0 : Nat} {ad0 : Nat → Nat} {QW : State → Prop} {ad : Nat → Nat} {H1 : Heap} {locs : List Loc} {ls : Array Slot} {kd len q : Nat} {en : va_E}
    (C : Cx K d y Q p e s m args below meth c D cA ros fm A n0 ad0 QW) (hHV : HV G) (hn0 : n0 ≤ G.1) (ha : ∀ k, k < n0 ∨ y.2.2.2.2.1 = 0 → ad k = ad0 k) (hl : Lok (cv ad ros fm) y.2.2.1 L ls) (hmc : y.2.2.2.2.1 ≠ 0) (hvL : okR G.1 L) (hvs : okR G.1 st)
    (he : en = ent (fun k => if k = G.1 then q else ad k) cA (fun a b => if a = (G.1 : Int) then dfl kd b else G.2.2 a b) G.1 (kd, len))
    (hP : va_P D vwCl (wl ad cA G ++ [(q, en)]) H1) (hD : va_D A (wl ad cA G ++ [(q, en)])) (hS : va_S A s.heap H1 locs) (k : WP K d y kc ks pc L ((2, (G.1 : Int)) :: st) (hnew G kd len) Q) :
    W p K.1 e (rmd d y) s m args below meth c H1 locs kc ks QW (F0 m pc ls (.ref q :: st.map (cv ad ros fm))) := by
  subst he
  rw [← wl_new hHV] at hP hD
  have hag : ∀ k', k' < G.1 → (fun k => if k = G.1 then q else ad k) k' = ad k' := fun k' hk' => if_neg (by omega)
  have k' := k p e s m args below meth c D cA ros fm A n0 ad0 QW (fun k => if k = G.1 then q else ad k) H1 locs ls C ⟨hP, hD, hHV.new⟩ hS (by show n0 ≤ G.1 + 1; omega)
    (fun k' hk' => by
      rcases hk' with hk' | hk'
      · rw [← ha k' (Or.inl hk')]; exact hag k' (by omega)
      · exact absurd hk' hmc) (hl.ad hag hvL)
  refine W.eq ?_ k'
  rw [List.map_cons, cv_ref (by omega), map_eq hag hvs]
  simp
theorem dflt_obj {ad : Nat → Nat} {ci : Nat} (h : ci < 10) : ∀ j, j < nflds ci → defaultValue (fldT ci j) = vp_V ((List.range (nflds ci)).map (fun j => cf ad (fldT ci j) (dfl ci j))) j := by
  intro j hj
  have ht := fld_okT ci h j hj
  simp only [vp_V, List.getD_eq_getElem?_getD, List.getElem?_map, List.getElem?_range hj, Option.map_some, Option.getD_some]
  unfold cf dfl refSlot
  simp only [h, if_true, Int.toNat_natCast]
  revert ht
  cases fldT ci j <;> intro ht <;> first | (cases ht; done) | rfl
theorem row_def {ad : Nat → Nat} {cA : Nat → ClassId} {kd len : Nat} {c : Int → Int → Int} {k : Nat} (hc : ∀ j : Nat, c k j = dfl kd j) (h : 10 ≤ kd ∧ kd < 13) : ent ad cA c k (kd, len) = .inl (cA kd, len, .inl (fun _ => 0)) := by
  have h1 : ¬ kd < 10 := by omega
  have h2 : ¬ 14 ≤ kd := by omega
  simp [ent, hc, h1, h.2, dfl, refSlot, h2]
theorem row_defL {ad : Nat → Nat} {cA : Nat → ClassId} {len : Nat} {c : Int → Int → Int} {k : Nat} (hc : ∀ j : Nat, c k j = dfl 13 j) : ent ad cA c k (13, len) = .inl (cA 13, len, .inr (.inl (fun _ => 0))) := by
  simp [ent, hc, dfl, refSlot]
theorem row_defR {ad : Nat → Nat} {cA : Nat → ClassId} {kd len : Nat} {c : Int → Int → Int} {k : Nat} (hc : ∀ j : Nat, c k j = dfl kd j) (h : 14 ≤ kd) : ent ad cA c k (kd, len) = .inl (cA kd, len, .inr (.inr (.inr (.inr (fun _ => none))))) := by
  have h1 : ¬ kd < 10 := by omega
  have h2 : ¬ kd < 13 := by omega
  have h3 : ¬ kd = 13 := by omega
  simp [ent, hc, h1, h2, h3, dfl, refSlot, h, cr]

theorem R_new {K : Launch × Nat × (Nat → Int)} {d : Nat} {y : mth} {kc ks pc pc' : Nat} {L st : List av} {G : hp} {Q : hp → av → Prop} {idx ci : Nat} (hd : decode y.2.1 pc = .ok (.new idx, 3)) (h10 : ci < 10) (hw : Cond.classLink y.1.cls idx (clsN ci) ∈ wsA) (hw2 : Cond.instantiable (clsN ci) (nflds ci) ∈ wsA) (hw3 : Cond.initialized (clsN ci) ∈ wsA) (hm : kc + 1 ≤ y.2.2.2.2.1) (hm2 : ks + nflds ci ≤ y.2.2.2.2.2) (hvL : okR G.1 L) (hvs : okR G.1 st) (hn : pc + 3 = pc') (k : WP K d y (kc + 1) (ks + nflds ci) pc' L ((2, (G.1 : Int)) :: st) (hnew G ci 0) Q) : WP K d y kc ks pc L st G Q := by
  subst hn
  intro p e s m args below meth c D cA ros fm A n0 ad0 QW ad H locs ls C hR hS hn0 ha hl
  obtain ⟨⟨hx, hb, hml, hr, hlk, hown, hmn, hts, hnw⟩, hK, hSW, hA, hRC⟩ := id C
  refine va_new (ci := ci) (fs := (List.range (nflds ci)).map (fun j => cf ad (fldT ci j) (dfl ci j))) (C := clsN ci) (T := fldN ci) (N := nflds ci) hx hb hts (fld_in ci h10) (fldT ci) (fld_ty ci h10) hown (hts _ hw) (hts _ hw2) (hts _ hw3) hK hR.1 hR.2.1 hS hA (vwCl_at ci h10) (dflt_obj h10) hm hm2 hd (fun q H1 hP1 hD1 hS1 => ?_)
  refine new_fin C hR.2.2 hn0 ha hl (by omega) hvL hvs ?_ hP1 hD1 hS1 k
  simp only [ent, h10, if_true]
  congr 2
  apply List.map_congr_left
  intro j _
  simp only [cf]
  by_cases h2 : isRefT (fldT ci j) = true
  · simp [h2, dfl, refSlot, h10, cr]
  · simp [h2]
theorem R_newa_int {K : Launch × Nat × (Nat → Int)} {d : Nat} {y : mth} {kc ks pc pc' : Nat} {L st : List av} {G : hp} {Q : hp → av → Prop} {len : Nat} (hd : decode y.2.1 pc = .ok (.newarray .int, 2)) (hw : Cond.arrayClass .int ∈ wsA) (hlen : len ≤ 65536) (hm : kc + 1 ≤ y.2.2.2.2.1) (hm2 : ks + len ≤ y.2.2.2.2.2) (hvL : okR G.1 L) (hvs : okR G.1 st) (hn : pc + 2 = pc') (k : WP K d y (kc + 1) (ks + len) pc' L ((2, (G.1 : Int)) :: st) (hnew G 10 len) Q) : WP K d y kc ks pc L ((0, (len : Int)) :: st) G Q := by
  subst hn
  intro p e s m args below meth c D cA ros fm A n0 ad0 QW ad H locs ls C hR hS hn0 ha hl
  obtain ⟨⟨hx, hb, hml, hr, hlk, hown, hmn, hts, hnw⟩, hK, hSW, hA, hRC⟩ := id C
  have hi : ir (len : Int) := ⟨by omega, by omega⟩
  have hneg : ¬ Int32.ofInt (len : Int) < 0 := fun q => by have := (i_lt hi ir0).mp q; omega
  refine va_newa (ty := .int) (N' := len) (a0 := (len, .inl (fun _ => 0))) (atype := .int) hx hb (hts _ hw) rfl hK hR.1 hR.2.1 hS hA (fun cA' => by rfl) hneg (by rw [i_clamp (by omega) (by omega)]; omega) (by exact Nat.le_trans (Nat.mul_le_mul hlen (show componentBytes .int ≤ 8 by decide)) (by omega)) hm hm2 hd (fun q cA' H1 hK1 hP1 hD1 hS1 => ?_)
  have e1 : cA' = cA 10 := by
    have z1 := va_nm_int (hK1.2 6 (cA', .int) rfl).2
    have z2 := va_nm_int (hK.2 0 (cA 10, .int) rfl).2
    exact Option.some.inj (z1.symm.trans z2)
  subst e1
  exact new_fin C hR.2.2 hn0 ha hl (by omega) hvL hvs (row_def (fun j => by simp) (by omega)).symm hP1 hD1 hS1 k
theorem R_newa_boolean {K : Launch × Nat × (Nat → Int)} {d : Nat} {y : mth} {kc ks pc pc' : Nat} {L st : List av} {G : hp} {Q : hp → av → Prop} {len : Nat} (hd : decode y.2.1 pc = .ok (.newarray .boolean, 2)) (hw : Cond.arrayClass .boolean ∈ wsA) (hlen : len ≤ 65536) (hm : kc + 1 ≤ y.2.2.2.2.1) (hm2 : ks + len ≤ y.2.2.2.2.2) (hvL : okR G.1 L) (hvs : okR G.1 st) (hn : pc + 2 = pc') (k : WP K d y (kc + 1) (ks + len) pc' L ((2, (G.1 : Int)) :: st) (hnew G 11 len) Q) : WP K d y kc ks pc L ((0, (len : Int)) :: st) G Q := by
  subst hn
  intro p e s m args below meth c D cA ros fm A n0 ad0 QW ad H locs ls C hR hS hn0 ha hl
  obtain ⟨⟨hx, hb, hml, hr, hlk, hown, hmn, hts, hnw⟩, hK, hSW, hA, hRC⟩ := id C
  have hi : ir (len : Int) := ⟨by omega, by omega⟩
  have hneg : ¬ Int32.ofInt (len : Int) < 0 := fun q => by have := (i_lt hi ir0).mp q; omega
  refine va_newa (ty := .boolean) (N' := len) (a0 := (len, .inl (fun _ => 0))) (atype := .boolean) hx hb (hts _ hw) rfl hK hR.1 hR.2.1 hS hA (fun cA' => by rfl) hneg (by rw [i_clamp (by omega) (by omega)]; omega) (by exact Nat.le_trans (Nat.mul_le_mul hlen (show componentBytes .boolean ≤ 8 by decide)) (by omega)) hm hm2 hd (fun q cA' H1 hK1 hP1 hD1 hS1 => ?_)
  have e1 : cA' = cA 11 := by
    have z1 := va_nm_boolean (hK1.2 6 (cA', .boolean) rfl).2
    have z2 := va_nm_boolean (hK.2 1 (cA 11, .boolean) rfl).2
    exact Option.some.inj (z1.symm.trans z2)
  subst e1
  exact new_fin C hR.2.2 hn0 ha hl (by omega) hvL hvs (row_def (fun j => by simp) (by omega)).symm hP1 hD1 hS1 k
theorem R_newa_byte {K : Launch × Nat × (Nat → Int)} {d : Nat} {y : mth} {kc ks pc pc' : Nat} {L st : List av} {G : hp} {Q : hp → av → Prop} {len : Nat} (hd : decode y.2.1 pc = .ok (.newarray .byte, 2)) (hw : Cond.arrayClass .byte ∈ wsA) (hlen : len ≤ 65536) (hm : kc + 1 ≤ y.2.2.2.2.1) (hm2 : ks + len ≤ y.2.2.2.2.2) (hvL : okR G.1 L) (hvs : okR G.1 st) (hn : pc + 2 = pc') (k : WP K d y (kc + 1) (ks + len) pc' L ((2, (G.1 : Int)) :: st) (hnew G 12 len) Q) : WP K d y kc ks pc L ((0, (len : Int)) :: st) G Q := by
  subst hn
  intro p e s m args below meth c D cA ros fm A n0 ad0 QW ad H locs ls C hR hS hn0 ha hl
  obtain ⟨⟨hx, hb, hml, hr, hlk, hown, hmn, hts, hnw⟩, hK, hSW, hA, hRC⟩ := id C
  have hi : ir (len : Int) := ⟨by omega, by omega⟩
  have hneg : ¬ Int32.ofInt (len : Int) < 0 := fun q => by have := (i_lt hi ir0).mp q; omega
  refine va_newa (ty := .byte) (N' := len) (a0 := (len, .inl (fun _ => 0))) (atype := .byte) hx hb (hts _ hw) rfl hK hR.1 hR.2.1 hS hA (fun cA' => by rfl) hneg (by rw [i_clamp (by omega) (by omega)]; omega) (by exact Nat.le_trans (Nat.mul_le_mul hlen (show componentBytes .byte ≤ 8 by decide)) (by omega)) hm hm2 hd (fun q cA' H1 hK1 hP1 hD1 hS1 => ?_)
  have e1 : cA' = cA 12 := by
    have z1 := va_nm_byte (hK1.2 6 (cA', .byte) rfl).2
    have z2 := va_nm_byte (hK.2 2 (cA 12, .byte) rfl).2
    exact Option.some.inj (z1.symm.trans z2)
  subst e1
  exact new_fin C hR.2.2 hn0 ha hl (by omega) hvL hvs (row_def (fun j => by simp) (by omega)).symm hP1 hD1 hS1 k
theorem R_newa_long {K : Launch × Nat × (Nat → Int)} {d : Nat} {y : mth} {kc ks pc pc' : Nat} {L st : List av} {G : hp} {Q : hp → av → Prop} {len : Nat} (hd : decode y.2.1 pc = .ok (.newarray .long, 2)) (hw : Cond.arrayClass .long ∈ wsA) (hlen : len ≤ 65536) (hm : kc + 1 ≤ y.2.2.2.2.1) (hm2 : ks + len ≤ y.2.2.2.2.2) (hvL : okR G.1 L) (hvs : okR G.1 st) (hn : pc + 2 = pc') (k : WP K d y (kc + 1) (ks + len) pc' L ((2, (G.1 : Int)) :: st) (hnew G 13 len) Q) : WP K d y kc ks pc L ((0, (len : Int)) :: st) G Q := by
  subst hn
  intro p e s m args below meth c D cA ros fm A n0 ad0 QW ad H locs ls C hR hS hn0 ha hl
  obtain ⟨⟨hx, hb, hml, hr, hlk, hown, hmn, hts, hnw⟩, hK, hSW, hA, hRC⟩ := id C
  have hi : ir (len : Int) := ⟨by omega, by omega⟩
  have hneg : ¬ Int32.ofInt (len : Int) < 0 := fun q => by have := (i_lt hi ir0).mp q; omega
  refine va_newa (ty := .long) (N' := len) (a0 := (len, .inr (.inl (fun _ => 0)))) (atype := .long) hx hb (hts _ hw) rfl hK hR.1 hR.2.1 hS hA (fun cA' => by rfl) hneg (by rw [i_clamp (by omega) (by omega)]; omega) (by exact Nat.le_trans (Nat.mul_le_mul hlen (show componentBytes .long ≤ 8 by decide)) (by omega)) hm hm2 hd (fun q cA' H1 hK1 hP1 hD1 hS1 => ?_)
  have e1 : cA' = cA 13 := by
    have z1 := va_nm_long (hK1.2 6 (cA', .long) rfl).2
    have z2 := va_nm_long (hK.2 3 (cA 13, .long) rfl).2
    exact Option.some.inj (z1.symm.trans z2)
  subst e1
  exact new_fin C hR.2.2 hn0 ha hl (by omega) hvL hvs (row_defL (fun j => by simp)).symm hP1 hD1 hS1 k
theorem R_newq_House {K : Launch × Nat × (Nat → Int)} {d : Nat} {y : mth} {kc ks pc pc' : Nat} {L st : List av} {G : hp} {Q : hp → av → Prop} {idx len : Nat} (hd : decode y.2.1 pc = .ok (.anewarray idx, 3)) (hw : Cond.classLink y.1.cls idx (clsN 2) ∈ wsA) (hw2 : Cond.arrayOver (.object (clsN 2)) ∈ nestW) (hlen : len ≤ 65536) (hm : kc + 1 ≤ y.2.2.2.2.1) (hm2 : ks + len ≤ y.2.2.2.2.2) (hvL : okR G.1 L) (hvs : okR G.1 st) (hn : pc + 3 = pc') (k : WP K d y (kc + 1) (ks + len) pc' L ((2, (G.1 : Int)) :: st) (hnew G 14 len) Q) : WP K d y kc ks pc L ((0, (len : Int)) :: st) G Q := by
  subst hn
  intro p e s m args below meth c D cA ros fm A n0 ad0 QW ad H locs ls C hR hS hn0 ha hl
  obtain ⟨⟨hx, hb, hml, hr, hlk, hown, hmn, hts, hnw⟩, hK, hSW, hA, hRC⟩ := id C
  have hi : ir (len : Int) := ⟨by omega, by omega⟩
  have hneg : ¬ Int32.ofInt (len : Int) < 0 := fun q => by have := (i_lt hi ir0).mp q; omega
  refine va_newq (C := clsN 2) (N' := len) hx hb hown (hts _ hw) (hnw _ hw2) hK hR.1 hR.2.1 hS hA hneg (by rw [i_clamp (by omega) (by omega)]; omega) (by omega) hm hm2 hd (fun q cA' H1 hK1 hP1 hD1 hS1 => ?_)
  have e1 : cA' = cA 14 := by
    obtain ⟨kA, comp, -, -, -, z1⟩ := (hK1.2 6 (cA', .object (clsN 2)) rfl).2
    obtain ⟨kA2, comp2, -, -, -, z2⟩ := (hK.2 4 (cA 14, .object (clsN 2)) rfl).2
    exact Option.some.inj (z1.symm.trans z2)
  subst e1
  exact new_fin C hR.2.2 hn0 ha hl (by omega) hvL hvs (row_defR (fun j => by simp) (by omega)).symm hP1 hD1 hS1 k
theorem R_newq_Tape {K : Launch × Nat × (Nat → Int)} {d : Nat} {y : mth} {kc ks pc pc' : Nat} {L st : List av} {G : hp} {Q : hp → av → Prop} {idx len : Nat} (hd : decode y.2.1 pc = .ok (.anewarray idx, 3)) (hw : Cond.classLink y.1.cls idx (clsN 7) ∈ wsA) (hw2 : Cond.arrayOver (.object (clsN 7)) ∈ nestW) (hlen : len ≤ 65536) (hm : kc + 1 ≤ y.2.2.2.2.1) (hm2 : ks + len ≤ y.2.2.2.2.2) (hvL : okR G.1 L) (hvs : okR G.1 st) (hn : pc + 3 = pc') (k : WP K d y (kc + 1) (ks + len) pc' L ((2, (G.1 : Int)) :: st) (hnew G 15 len) Q) : WP K d y kc ks pc L ((0, (len : Int)) :: st) G Q := by
  subst hn
  intro p e s m args below meth c D cA ros fm A n0 ad0 QW ad H locs ls C hR hS hn0 ha hl
  obtain ⟨⟨hx, hb, hml, hr, hlk, hown, hmn, hts, hnw⟩, hK, hSW, hA, hRC⟩ := id C
  have hi : ir (len : Int) := ⟨by omega, by omega⟩
  have hneg : ¬ Int32.ofInt (len : Int) < 0 := fun q => by have := (i_lt hi ir0).mp q; omega
  refine va_newq (C := clsN 7) (N' := len) hx hb hown (hts _ hw) (hnw _ hw2) hK hR.1 hR.2.1 hS hA hneg (by rw [i_clamp (by omega) (by omega)]; omega) (by omega) hm hm2 hd (fun q cA' H1 hK1 hP1 hD1 hS1 => ?_)
  have e1 : cA' = cA 15 := by
    obtain ⟨kA, comp, -, -, -, z1⟩ := (hK1.2 6 (cA', .object (clsN 7)) rfl).2
    obtain ⟨kA2, comp2, -, -, -, z2⟩ := (hK.2 5 (cA 15, .object (clsN 7)) rfl).2
    exact Option.some.inj (z1.symm.trans z2)
  subst e1
  exact new_fin C hR.2.2 hn0 ha hl (by omega) hvL hvs (row_defR (fun j => by simp) (by omega)).symm hP1 hD1 hS1 k
/-- row a of the content becomes what f says -/
def upRow (c : Int → Int → Int) (k : Int) (f : Int → Int) : Int → Int → Int := fun a b => if a = k then f b else c a b
def cpyI (f g : Int → Int) (sp dp n : Int) : Int → Int := fun j => if dp ≤ j ∧ j < dp + n then f (sp + (j - dp)) else g j
def hrow (G : hp) (k : Int) (f : Int → Int) : hp := (G.1, G.2.1, upRow G.2.2 k f)
theorem upRow_off {c : Int → Int → Int} {k : Nat} {f : Int → Int} : ∀ k' : Nat, k' ≠ k → ∀ j : Nat, upRow c k f k' j = c k' j := by
  intro k' h j
  have h2 : ¬ (k' : Int) = (k : Int) := by omega
  simp [upRow, h2]
theorem HV.row {n : Nat} {sh : Nat → Nat × Nat} {c : Int → Int → Int} {k : Nat} {f : Int → Int} (h : HV (n, sh, c)) (hx : ∀ j : Nat, refSlot (sh k).1 j = false) : HV (n, sh, upRow c k f) := by
  intro a b ha hr
  by_cases e : a = k
  · subst e; rw [show ((n, sh, upRow c a f) : hp).2.1 = sh from rfl, hx b] at hr; cases hr
  · have := h a b ha hr
    show upRow c k f a b < n
    rw [upRow_off a e b]; exact this
theorem cpy_to {α : Type} (F : Int → α) (f g : Int → Int) {sp dp n : Int} (h1 : 0 ≤ sp) (h2 : 0 ≤ dp) (h3 : 0 ≤ n) : va_cpy (fun j : Nat => F (f j)) (fun j : Nat => F (g j)) sp.toNat dp.toNat n.toNat = fun j : Nat => F (cpyI f g sp dp n j) := by
  funext j
  unfold va_cpy cpyI
  by_cases h : dp.toNat ≤ j ∧ j < dp.toNat + n.toNat
  · have h' : dp ≤ (j : Int) ∧ (j : Int) < dp + n := by omega
    have e : ((sp.toNat + (j - dp.toNat) : Nat) : Int) = sp + ((j : Int) - dp) := by omega
    rw [if_pos h, if_pos h']
    show F (f ((sp.toNat + (j - dp.toNat) : Nat) : Int)) = _
    rw [e]
  · have h' : ¬ (dp ≤ (j : Int) ∧ (j : Int) < dp + n) := by omega
    rw [if_neg h, if_neg h']
def kCp (own : String) (idx : Nat) : Prop := Cond.methodLink own idx arraycopyName ∈ wsA ∧ Cond.native arraycopyName ∈ wsA ∧ Cond.static arraycopyName ∈ wsA ∧ Cond.initialized "java/lang/System" ∈ wsA
theorem R_cpyi {K : Launch × Nat × (Nat → Int)} {d : Nat} {y : mth} {kc ks pc pc' : Nat} {L st : List av} {G : hp} {Q : hp → av → Prop} {x0 x1 sp dp n : Int} {len0 len1 idx : Nat} (hd : decode y.2.1 pc = .ok (.invokestatic idx, 3)) (hk : kCp y.1.cls idx) (hd1 : 1 ≤ d) (hst : (st.map avc).sum ≤ 8) (hc0 : isC G x0 10 len0) (hc1 : isC G x1 10 len1) (hl0 : len0 ≤ 65536) (hl1 : len1 ≤ 65536) (h1 : 0 ≤ sp) (h2 : 0 ≤ dp) (h3 : 0 ≤ n) (h4 : sp + n ≤ len0) (h5 : dp + n ≤ len1) (hn : pc + 3 = pc') (k : WP K d y kc ks pc' L st (hrow G x1 (cpyI (G.2.2 x0) (G.2.2 x1) sp dp n)) Q) : WP K d y kc ks pc L ((0, n) :: (0, dp) :: (2, x1) :: (0, sp) :: (2, x0) :: st) G Q := by
  subst hn
  intro p e s m args below meth c D cA ros fm A n0 ad0 QW ad H locs ls C hR hS hn0 ha hl
  obtain ⟨⟨hx, hb, hml, hr, hlk, hown, hmn, hts, hnw⟩, hK, hSW, hA, hRC⟩ := id C
  obtain ⟨nn, sh, ct⟩ := G
  obtain ⟨hw1, hw2, hw3, hw4⟩ := hk
  have neg : ∀ z : Int, 0 ≤ z → z ≤ 65536 → ¬ Int32.ofInt z < 0 := fun z hz0 hz1 q => by have := (i_lt (a := z) ⟨by omega, by omega⟩ ir0).mp q; omega
  refine W.eq (g2 := F0 m pc ls (.int (Int32.ofInt n) :: .int (Int32.ofInt dp) :: .ref (ad x1.toNat) :: .int (Int32.ofInt sp) :: .ref (ad x0.toNat) :: st.map (cv ad ros fm))) (by simp only [List.map_cons, cv_ref hc0.1, cv_ref hc1.1]; rfl) ?_
  have c1 := i_clamp h1 (show sp < 2147483648 by omega)
  have c2 := i_clamp h2 (show dp < 2147483648 by omega)
  have c3 := i_clamp h3 (show n < 2147483648 by omega)
  refine va_copyi (D := D) (ty := .int) hx hb (hml.trans hl.1.symm) hown (hts _ hw1) (hts _ hw2) (hts _ hw3) (hts _ hw4) hK hR.1 hR.2.1 hS x0.toNat x1.toNat 0 0 (ent_i hc0 (by omega)) (ent_i hc1 (by omega)) rfl rfl rfl (neg sp h1 (by omega)) (neg dp h2 (by omega)) (neg n h3 (by omega)) (by rw [c1, c3]; omega) (by rw [c2, c3]; omega) ?_ hd1 ?_ hd (fun H1 locs1 hP1 hD1 hS1 => ?_)
  · intro j hj
    rw [c1]
    rw [c3] at hj
    exact rfl
  · rw [cat_sum hSW.2.2.2.2.2.2.1]
    show _ + (nativeFrameWords "java/lang/System" "arraycopy" 5 + 11) ≤ 41 * d + 32
    have : nativeFrameWords "java/lang/System" "arraycopy" 5 ≤ 7 := by decide
    omega
  have h1s : sh x1.toNat = (10, len1) := hc1.2.2
  have hoff := upRow_off (c := ct) (k := x1.toNat) (f := cpyI (ct x0) (ct x1) sp dp n)
  rw [hc1.c] at hoff
  rw [c1, c2, c3, cpy_to (fun z => Int32.ofInt z) (ct x0) (ct x1) h1 h2 h3, wl_set (c' := upRow ct x1 (cpyI (ct x0) (ct x1) sp dp n)) hoff (by rw [h1s]; simp [ent, upRow, hc1.c])] at hP1 hD1
  have hHV : HV (nn, sh, upRow ct x1 (cpyI (ct x0) (ct x1) sp dp n)) := by
    have := hR.2.2.row (k := x1.toNat) (f := cpyI (ct x0) (ct x1) sp dp n) (fun j => by rw [h1s]; rfl)
    rwa [hc1.c] at this
  exact k p e s m args below meth c D cA ros fm A n0 ad0 QW ad H1 locs1 ls C ⟨hP1, hD1, hHV⟩ hS1 hn0 ha hl
theorem R_cpyz {K : Launch × Nat × (Nat → Int)} {d : Nat} {y : mth} {kc ks pc pc' : Nat} {L st : List av} {G : hp} {Q : hp → av → Prop} {x0 x1 sp dp n : Int} {len0 len1 idx : Nat} (hd : decode y.2.1 pc = .ok (.invokestatic idx, 3)) (hk : kCp y.1.cls idx) (hd1 : 1 ≤ d) (hst : (st.map avc).sum ≤ 8) (hc0 : isC G x0 11 len0) (hc1 : isC G x1 11 len1) (hl0 : len0 ≤ 65536) (hl1 : len1 ≤ 65536) (h1 : 0 ≤ sp) (h2 : 0 ≤ dp) (h3 : 0 ≤ n) (h4 : sp + n ≤ len0) (h5 : dp + n ≤ len1) (hz : ∀ j : Int, 0 ≤ j → j < len0 → G.2.2 x0 j = 0 ∨ G.2.2 x0 j = 1) (hn : pc + 3 = pc') (k : WP K d y kc ks pc' L st (hrow G x1 (cpyI (G.2.2 x0) (G.2.2 x1) sp dp n)) Q) : WP K d y kc ks pc L ((0, n) :: (0, dp) :: (2, x1) :: (0, sp) :: (2, x0) :: st) G Q := by
  subst hn
  intro p e s m args below meth c D cA ros fm A n0 ad0 QW ad H locs ls C hR hS hn0 ha hl
  obtain ⟨⟨hx, hb, hml, hr, hlk, hown, hmn, hts, hnw⟩, hK, hSW, hA, hRC⟩ := id C
  obtain ⟨nn, sh, ct⟩ := G
  obtain ⟨hw1, hw2, hw3, hw4⟩ := hk
  have neg : ∀ z : Int, 0 ≤ z → z ≤ 65536 → ¬ Int32.ofInt z < 0 := fun z hz0 hz1 q => by have := (i_lt (a := z) ⟨by omega, by omega⟩ ir0).mp q; omega
  refine W.eq (g2 := F0 m pc ls (.int (Int32.ofInt n) :: .int (Int32.ofInt dp) :: .ref (ad x1.toNat) :: .int (Int32.ofInt sp) :: .ref (ad x0.toNat) :: st.map (cv ad ros fm))) (by simp only [List.map_cons, cv_ref hc0.1, cv_ref hc1.1]; rfl) ?_
  have c1 := i_clamp h1 (show sp < 2147483648 by omega)
  have c2 := i_clamp h2 (show dp < 2147483648 by omega)
  have c3 := i_clamp h3 (show n < 2147483648 by omega)
  refine va_copyi (D := D) (ty := .boolean) hx hb (hml.trans hl.1.symm) hown (hts _ hw1) (hts _ hw2) (hts _ hw3) (hts _ hw4) hK hR.1 hR.2.1 hS x0.toNat x1.toNat 1 1 (ent_i hc0 (by omega)) (ent_i hc1 (by omega)) rfl rfl rfl (neg sp h1 (by omega)) (neg dp h2 (by omega)) (neg n h3 (by omega)) (by rw [c1, c3]; omega) (by rw [c2, c3]; omega) ?_ hd1 ?_ hd (fun H1 locs1 hP1 hD1 hS1 => ?_)
  · intro j hj
    rw [c1]
    rw [c3] at hj
    exact (nar_bool (hz ((sp.toNat + j : Nat) : Int) (by omega) (by omega))).2
  · rw [cat_sum hSW.2.2.2.2.2.2.1]
    show _ + (nativeFrameWords "java/lang/System" "arraycopy" 5 + 11) ≤ 41 * d + 32
    have : nativeFrameWords "java/lang/System" "arraycopy" 5 ≤ 7 := by decide
    omega
  have h1s : sh x1.toNat = (11, len1) := hc1.2.2
  have hoff := upRow_off (c := ct) (k := x1.toNat) (f := cpyI (ct x0) (ct x1) sp dp n)
  rw [hc1.c] at hoff
  rw [c1, c2, c3, cpy_to (fun z => Int32.ofInt z) (ct x0) (ct x1) h1 h2 h3, wl_set (c' := upRow ct x1 (cpyI (ct x0) (ct x1) sp dp n)) hoff (by rw [h1s]; simp [ent, upRow, hc1.c])] at hP1 hD1
  have hHV : HV (nn, sh, upRow ct x1 (cpyI (ct x0) (ct x1) sp dp n)) := by
    have := hR.2.2.row (k := x1.toNat) (f := cpyI (ct x0) (ct x1) sp dp n) (fun j => by rw [h1s]; rfl)
    rwa [hc1.c] at this
  exact k p e s m args below meth c D cA ros fm A n0 ad0 QW ad H1 locs1 ls C ⟨hP1, hD1, hHV⟩ hS1 hn0 ha hl
theorem R_cpyl {K : Launch × Nat × (Nat → Int)} {d : Nat} {y : mth} {kc ks pc pc' : Nat} {L st : List av} {G : hp} {Q : hp → av → Prop} {x0 x1 sp dp n : Int} {len0 len1 idx : Nat} (hd : decode y.2.1 pc = .ok (.invokestatic idx, 3)) (hk : kCp y.1.cls idx) (hd1 : 1 ≤ d) (hst : (st.map avc).sum ≤ 8) (hc0 : isC G x0 13 len0) (hc1 : isC G x1 13 len1) (hl0 : len0 ≤ 65536) (hl1 : len1 ≤ 65536) (h1 : 0 ≤ sp) (h2 : 0 ≤ dp) (h3 : 0 ≤ n) (h4 : sp + n ≤ len0) (h5 : dp + n ≤ len1) (hn : pc + 3 = pc') (k : WP K d y kc ks pc' L st (hrow G x1 (cpyI (G.2.2 x0) (G.2.2 x1) sp dp n)) Q) : WP K d y kc ks pc L ((0, n) :: (0, dp) :: (2, x1) :: (0, sp) :: (2, x0) :: st) G Q := by
  subst hn
  intro p e s m args below meth c D cA ros fm A n0 ad0 QW ad H locs ls C hR hS hn0 ha hl
  obtain ⟨⟨hx, hb, hml, hr, hlk, hown, hmn, hts, hnw⟩, hK, hSW, hA, hRC⟩ := id C
  obtain ⟨nn, sh, ct⟩ := G
  obtain ⟨hw1, hw2, hw3, hw4⟩ := hk
  have neg : ∀ z : Int, 0 ≤ z → z ≤ 65536 → ¬ Int32.ofInt z < 0 := fun z hz0 hz1 q => by have := (i_lt (a := z) ⟨by omega, by omega⟩ ir0).mp q; omega
  refine W.eq (g2 := F0 m pc ls (.int (Int32.ofInt n) :: .int (Int32.ofInt dp) :: .ref (ad x1.toNat) :: .int (Int32.ofInt sp) :: .ref (ad x0.toNat) :: st.map (cv ad ros fm))) (by simp only [List.map_cons, cv_ref hc0.1, cv_ref hc1.1]; rfl) ?_
  have c1 := i_clamp h1 (show sp < 2147483648 by omega)
  have c2 := i_clamp h2 (show dp < 2147483648 by omega)
  have c3 := i_clamp h3 (show n < 2147483648 by omega)
  refine va_copyl (D := D) (ty := .long) hx hb (hml.trans hl.1.symm) hown (hts _ hw1) (hts _ hw2) (hts _ hw3) (hts _ hw4) hK hR.1 hR.2.1 hS x0.toNat x1.toNat 3 3 (ent_l hc0) (ent_l hc1) rfl rfl rfl (neg sp h1 (by omega)) (neg dp h2 (by omega)) (neg n h3 (by omega)) (by rw [c1, c3]; omega) (by rw [c2, c3]; omega) ?_ hd1 ?_ hd (fun H1 locs1 hP1 hD1 hS1 => ?_)
  · intro j hj
    rw [c1]
    rw [c3] at hj
    exact rfl
  · rw [cat_sum hSW.2.2.2.2.2.2.1]
    show _ + (nativeFrameWords "java/lang/System" "arraycopy" 5 + 11) ≤ 41 * d + 32
    have : nativeFrameWords "java/lang/System" "arraycopy" 5 ≤ 7 := by decide
    omega
  have h1s : sh x1.toNat = (13, len1) := hc1.2.2
  have hoff := upRow_off (c := ct) (k := x1.toNat) (f := cpyI (ct x0) (ct x1) sp dp n)
  rw [hc1.c] at hoff
  rw [c1, c2, c3, cpy_to (fun z => Int64.ofInt z) (ct x0) (ct x1) h1 h2 h3, wl_set (c' := upRow ct x1 (cpyI (ct x0) (ct x1) sp dp n)) hoff (by rw [h1s]; simp [ent, upRow, hc1.c])] at hP1 hD1
  have hHV : HV (nn, sh, upRow ct x1 (cpyI (ct x0) (ct x1) sp dp n)) := by
    have := hR.2.2.row (k := x1.toNat) (f := cpyI (ct x0) (ct x1) sp dp n) (fun j => by rw [h1s]; rfl)
    rwa [hc1.c] at this
  exact k p e s m args below meth c D cA ros fm A n0 ad0 QW ad H1 locs1 ls C ⟨hP1, hD1, hHV⟩ hS1 hn0 ha hl
