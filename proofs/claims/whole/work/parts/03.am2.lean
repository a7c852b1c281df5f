/-! CONTEXT: what a method stands on -/
def roC (K : Launch × Nat × (Nat → Int)) (i : Nat) : Nat → Int := match i with
  | 0 => K.2.2
  | 1 => fun j => ([1, 2, 3, 4, 5, 0] : List Int).getD j 0
  | 2 => fun j => ([5, 0, 1, 2, 3, 4] : List Int).getD j 0
  | 3 => fun j => ([0, 0, 0, 1, 0, 0, 1] : List Int).getD j 0
  | 4 => fun j => ([10, 11, 12, 0, 20, 0, 30, 0, 0, 0, 0, 40, 50, 51, 0, 0, 0, 60, 71, 70, 0] : List Int).getD j 0
  | _ => fun j => ([-1, 0, 0, 0, 1, 2, 3] : List Int).getD j 0
def roLen (K : Launch × Nat × (Nat → Int)) (i : Nat) : Nat := match i with
  | 0 => K.2.1 | 1 => 6 | 2 => 6 | 3 => 7 | 4 => 21 | _ => 7
def stC (i : Nat) : String := match i with | 1 => "LeavesRoom$Table" | 2 => "LeavesRoom$Table" | 3 => "LeavesRoom$Table" | 4 => "LeavesRoom$Acts" | _ => "LeavesRoom"
def stN (i : Nat) : String := match i with | 1 => "SEAT_AFTER" | 2 => "SEAT_AHEAD" | 3 => "IS_SISTER" | 4 => "BODIES" | _ => "KIND_ABOVE"
def strTx (i : Nat) : String := match i with | 0 => "bear " | 1 => "shun " | 2 => "thirst " | _ => "window "
def strLen : List Nat := [5, 5, 7, 7]
def strByt : List (List Int32) := [[98, 101, 97, 114, 32], [115, 104, 117, 110, 32], [116, 104, 105, 114, 115, 116, 32], [119, 105, 110, 100, 111, 119, 32]]
def strB : List (List Int) := [[98, 101, 97, 114, 32], [115, 104, 117, 110, 32], [116, 104, 105, 114, 115, 116, 32], [119, 105, 110, 100, 111, 119, 32]]
def isNestW : Cond → Bool
  | .fieldLinkNest _ _ _ _ _ _ => true
  | .methodLinkNest _ _ _ _ => true
  | .arrayOver (.object _) => true
  | _ => false
def wsA : List Cond := lw_tbl.filter goodWord
def nestW : List Cond := lw_tbl.filter isNestW
theorem mem_lwT {w : Cond} (i : Nat) (h : tables_1[i]? = some w) : w ∈ lw_tbl := List.mem_append_right _ (List.mem_of_getElem? h)
theorem mem_A {w : Cond} (i : Nat) (h : tables_1[i]? = some w) (g : goodWord w = true) : w ∈ wsA := List.mem_filter.mpr ⟨mem_lwT i h, g⟩
theorem mem_P {w : Cond} (i : Nat) (h : (k2_sels lw_privs)[i]? = some w) (g : goodWord w = true) : w ∈ wsA := List.mem_filter.mpr ⟨List.mem_append_left _ (List.mem_of_getElem? h), g⟩
theorem mem_N {w : Cond} (i : Nat) (h : tables_1[i]? = some w) (g : isNestW w = true) : w ∈ nestW := List.mem_filter.mpr ⟨mem_lwT i h, g⟩
theorem nest_warm {w : Cond} (hn : isNestW w = true) {s U : State} (hW : s.WarmedH U.vm) (h : va_Nw w s) : va_Nw w U := by
  cases w with
  | fieldLinkNest => exact va_Nw.warmF hW h
  | methodLinkNest => exact va_Nw.warmM hW h
  | arrayOver t =>
    cases t with
    | object C => exact va_AO.moved (C := C) hW.alike h
    | _ => exact absurd hn (by simp [isNestW])
  | _ => exact absurd hn (by simp [isNestW])
theorem nest_same {w : Cond} (hn : isNestW w = true) {s U : State} (hv : U.vm = s.vm) (h : va_Nw w s) : va_Nw w U := by
  cases w with
  | fieldLinkNest => exact va_Nw.same rfl hv.symm h
  | methodLinkNest => exact va_Nw.same rfl hv.symm h
  | arrayOver t =>
    cases t with
    | object C => exact va_AO.moved (C := C) (by rw [hv]; exact Vm.Alike.refl s.vm) h
    | _ => exact absurd hn (by simp [isNestW])
  | _ => exact absurd hn (by simp [isNestW])
def wsY (y : mth) : List Cond := Cond.code y.1 y.2.1 y.2.2.1 y.2.2.2.1 :: wsA
theorem good_Y {y : mth} (h : Cond.code y.1 y.2.1 y.2.2.1 y.2.2.2.1 ∈ wsA) : GoodIn wsA (wsY y) := by
  have hA : ∀ w ∈ wsA, w ∈ wsA ∧ ((w.onTables && w.keeps) = true ∨ ∃ ty, w = .arrayClass ty) := fun w hw => ⟨hw, good_of_word (List.mem_filter.mp hw).2⟩
  intro w hw
  rcases List.mem_cons.mp hw with e | hw
  · subst e; exact hA _ h
  · exact hA w hw
/-- the room at depth d -/
def rmd (d : Nat) (y : mth) : Room := { frames := d, cells := y.2.2.2.2.1, slots := y.2.2.2.2.2, locals := 41 * d + 32 }
def SW (K : Launch × Nat × (Nat → Int)) (ros : Nat → Nat) (fm : Value) (A : Nat → Prop) (U : State) (H : Heap) : Prop :=
  (∀ i, i < 6 → va_T .int (ros i) (roLen K i) (fun j => .int (Int32.ofInt (roC K i j))) A U H) ∧
  (∀ i, 1 ≤ i → i < 6 → va_Z (stC i) (stN i) "[I" (.ref (ros i)) A U H) ∧
  va_Z "java/lang/String" "COMPACT_STRINGS" "Z" (.int 1) A U H ∧
  va_Z "jdk/internal/util/Preconditions" "SIOOBE_FORMATTER" "Ljava/util/function/BiFunction;" fm A U H ∧
  vk_S 4 strLen strByt (fun i => ros (6 + i)) (fun i => ros (10 + i)) A U H ∧
  (∀ i, i < 4 → vk_R RX4 (76 + 2 * i) (strTx i) (ros (6 + i)) U) ∧ (fm = .null ∨ ∃ a, fm = .ref a) ∧ roLen K 0 < 2 ^ 31
theorem SW.kept {K : Launch × Nat × (Nat → Int)} {ros : Nat → Nat} {fm : Value} {A : Nat → Prop} {U : State} {H H1 : Heap} (h : SW K ros fm A U H) (hq : ∀ a : Nat, a < H.size → ¬ A a → H1[a]? = H[a]?) : SW K ros fm A U H1 :=
  ⟨fun i hi => (h.1 i hi).kept hq, fun i h1 h2 => (h.2.1 i h1 h2).kept hq, h.2.2.1.kept hq, h.2.2.2.1.kept hq, h.2.2.2.2.1.kept hq, h.2.2.2.2.2⟩
theorem SW.warm {K : Launch × Nat × (Nat → Int)} {ros : Nat → Nat} {fm : Value} {A : Nat → Prop} {s U : State} {H : Heap} (hW : s.WarmedH U.vm) (h : SW K ros fm A s H) : SW K ros fm A U H :=
  ⟨fun i hi => va_T.moved hW.alike (h.1 i hi), fun i h1 h2 => va_Z.moved hW.alike (h.2.1 i h1 h2), va_Z.moved hW.alike h.2.2.1, va_Z.moved hW.alike h.2.2.2.1, vk_S.moved hW.alike h.2.2.2.2.1, fun i hi => vk_R.warm hW (h.2.2.2.2.2.1 i hi), h.2.2.2.2.2.2⟩
theorem SW.same {K : Launch × Nat × (Nat → Int)} {ros : Nat → Nat} {fm : Value} {A : Nat → Prop} {s U : State} {H : Heap} (hv : U.vm = s.vm) (h : SW K ros fm A s H) : SW K ros fm A U H := by
  have ha : s.vm.Alike U.vm := by rw [hv]; exact Vm.Alike.refl s.vm
  exact ⟨fun i hi => va_T.moved ha (h.1 i hi), fun i h1 h2 => va_Z.moved ha (h.2.1 i h1 h2), va_Z.moved ha h.2.2.1, va_Z.moved ha h.2.2.2.1, vk_S.moved ha h.2.2.2.2.1, fun i hi => vk_R.same hv (h.2.2.2.2.2.1 i hi), h.2.2.2.2.2.2⟩
def FX (y : mth) (p : Program) (s : State) (m : MethodId) (args : Array Value) (meth : Method) (c : Code) : Prop :=
  p.tables.exec = Jvm.exec ∧ c.code = y.2.1 ∧ c.maxLocals = y.2.2.1 ∧ meth.sig.returnType = y.2.2.2.1 ∧ meth.locks = false ∧ s.vm.findClass y.1.cls = some m.cls ∧ (y.1.name = "<init>" → meth.name = "<init>") ∧ (∀ w ∈ wsA, w.before args s = true) ∧ ∀ w ∈ nestW, va_Nw w s
/-- the heap: the cells, apart, with references to cells -/
def RH (D : va_G) (cA : Nat → ClassId) (ad : Nat → Nat) (A : Nat → Prop) (G : hp) (H : Heap) : Prop := va_P D vwCl (wl ad cA G) H ∧ va_D A (wl ad cA G) ∧ HV G
/-- how a method ends: its instruction, and what stands on the stack -/
def rtOk (y : mth) (pc : Nat) (v : av) : Prop :=
  (∃ ty, y.2.2.2.1 = some ty ∧ v.1 = 0 ∧ narrow ty (.int (Int32.ofInt v.2)) = .int (Int32.ofInt v.2) ∧ decode y.2.1 pc = .ok (.ireturn, 1)) ∨
  (y.2.2.2.1 = some .long ∧ v.1 = 1 ∧ decode y.2.1 pc = .ok (.lreturn, 1)) ∨
  (y.2.2.2.1 = none ∧ v.1 = 8 ∧ decode y.2.1 pc = .ok (.return_, 1)) ∨
  ((∃ n, y.2.2.2.1 = some (.object n)) ∧ v.1 = 3 ∧ decode y.2.1 pc = .ok (.areturn, 1))
def rst (w : Value) (v : av) : List Value := if v.1 = 8 then [] else [w]
def rvo (w : Value) (v : av) : Option Value := if v.1 = 8 then none else some w
def RC (K : Launch × Nat × (Nat → Int)) (R : Room) (y : mth) (p : Program) (e : Env) (s : State) (m : MethodId) (args : Array Value) (below : List Frame) (meth : Method) (c : Code) (D : va_G) (cA : Nat → ClassId) (ros : Nat → Nat) (fm : Value) (A : Nat → Prop) (n0 : Nat) (ad0 : Nat → Nat) (Q : hp → av → Prop) (QW : State → Prop) : Prop :=
  ∀ (G' : hp) (v : av) (ad : Nat → Nat) (H : Heap) (locs : List Loc) (ls : Array Slot) (pc : Nat), Q G' v → RH D cA ad A G' H → va_S A s.heap H locs → n0 ≤ G'.1 → (∀ k, k < n0 ∨ y.2.2.2.2.1 = 0 → ad k = ad0 k) → rtOk y pc v →
    W p K.1 e R s m args below meth c H locs y.2.2.2.2.1 y.2.2.2.2.2 QW (F0 m pc ls (rst (cv ad ros fm v) v))
def Cx (K : Launch × Nat × (Nat → Int)) (d : Nat) (y : mth) (Q : hp → av → Prop) (p : Program) (e : Env) (s : State) (m : MethodId) (args : Array Value) (below : List Frame) (meth : Method) (c : Code) (D : va_G) (cA : Nat → ClassId) (ros : Nat → Nat) (fm : Value) (A : Nat → Prop) (n0 : Nat) (ad0 : Nat → Nat) (QW : State → Prop) : Prop :=
  FX y p s m args meth c ∧ va_K D vwCl (tyl cA) s ∧ SW K ros fm A s s.heap ∧ (∀ q, s.heap.size ≤ q → A q) ∧ RC K (rmd d y) y p e s m args below meth c D cA ros fm A n0 ad0 Q QW
def Lok (V : av → Value) (nL : Nat) (L : List av) (ls : Array Slot) : Prop := ls.size = nL ∧ lv_wf ls ∧ ∀ (i : Nat) (v : av), L[i]? = some v → v.1 ≠ 9 → ls[i]? = some (.val (V v))
/-- from method y at pc, with these locals, this stack, this heap, kc cells and ks slots made so far, the method returns with Q -/
def WP (K : Launch × Nat × (Nat → Int)) (d : Nat) (y : mth) (kc ks pc : Nat) (L st : List av) (G : hp) (Q : hp → av → Prop) : Prop :=
  ∀ (p : Program) (e : Env) (s : State) (m : MethodId) (args : Array Value) (below : List Frame) (meth : Method) (c : Code) (D : va_G) (cA : Nat → ClassId) (ros : Nat → Nat) (fm : Value) (A : Nat → Prop) (n0 : Nat) (ad0 : Nat → Nat) (QW : State → Prop) (ad : Nat → Nat) (H : Heap) (locs : List Loc) (ls : Array Slot),
    Cx K d y Q p e s m args below meth c D cA ros fm A n0 ad0 QW → RH D cA ad A G H → va_S A s.heap H locs → n0 ≤ G.1 → (∀ k, k < n0 ∨ y.2.2.2.2.1 = 0 → ad k = ad0 k) → Lok (cv ad ros fm) y.2.2.1 L ls →
    W p K.1 e (rmd d y) s m args below meth c H locs kc ks QW (F0 m pc ls (st.map (cv ad ros fm)))
def cPre (K : Launch × Nat × (Nat → Int)) (D : va_G) (cA : Nat → ClassId) (ad ros : Nat → Nat) (fm : Value) (A : Nat → Prop) (vs : List av) (G : hp) : Array Value → State → Prop := fun a U =>
  a = (vs.map (cv ad ros fm)).toArray ∧ SW K ros fm A U U.heap ∧ RH D cA ad A G U.heap ∧ va_K D vwCl (tyl cA) U ∧ (∀ q, U.heap.size ≤ q → A q) ∧ ∀ w ∈ nestW, va_Nw w U
def cPost (mc : Nat) (D : va_G) (cA : Nat → ClassId) (ad ros : Nat → Nat) (fm : Value) (A : Nat → Prop) (G : hp) (Q : hp → av → Prop) : Array Value → State → Outcome → State → Prop := fun _ st o t =>
  (∃ (G' : hp) (v : av) (ad' : Nat → Nat), o = .returned (rvo (cv ad' ros fm v) v) ∧ Q G' v ∧ G.1 ≤ G'.1 ∧ (∀ k, k < G.1 ∨ mc = 0 → ad' k = ad k) ∧ RH D cA ad' A G' t.heap) ∧ va_F A st t
/-- a call of y with these arguments in this heap returns with Q -/
def CM (K : Launch × Nat × (Nat → Int)) (d : Nat) (y : mth) (vs : List av) (G : hp) (Q : hp → av → Prop) : Prop :=
  ∀ (D : va_G) (cA : Nat → ClassId) (ad ros : Nat → Nat) (fm : Value) (A : Nat → Prop), Met K.1 y.1 (wsY y) (rmd d y) (cPre K D cA ad ros fm A vs G) (cPost y.2.2.2.2.1 D cA ad ros fm A G Q) y.2.2.2.2.1 y.2.2.2.2.2 A
theorem cPre_blind {K : Launch × Nat × (Nat → Int)} {D : va_G} {cA : Nat → ClassId} {ad ros : Nat → Nat} {fm : Value} {A : Nat → Prop} {vs : List av} {G : hp} : FrameBlind (cPre K D cA ad ros fm A vs G) := by
  intro a U g mk h
  obtain ⟨h1, h2, h3, h4, h5, h6⟩ := h
  exact ⟨h1, SW.same (s := U) (U := U.calling g mk a) rfl h2, h3, va_K.moved (u := U) (U := U.calling g mk a) (Vm.Alike.refl U.vm) h4, h5, fun w hw => nest_same (List.mem_filter.mp hw).2 (s := U) (U := U.calling g mk a) rfl (h6 w hw)⟩
def eL : List av → List av
  | [] => []
  | v :: vs => if v.1 = 1 then v :: (9, 0) :: eL vs else v :: eL vs
def L0 (vs : List av) (n : Nat) : List av := eL vs ++ List.replicate (n - (eL vs).length) (9, 0)
theorem cv_cat (ad ros : Nat → Nat) {fm : Value} (hf : fm = .null ∨ ∃ a, fm = .ref a) (v : av) : (cv ad ros fm v).category = if v.1 = 1 then 2 else 1 := by
  obtain ⟨t, x⟩ := v
  match t with
  | 0 => rfl
  | 1 => rfl
  | 2 => simp only [cv, cr]; split <;> rfl
  | 3 => rfl
  | 4 => rcases hf with h | ⟨a, h⟩ <;> subst h <;> rfl
  | k + 5 => rfl
theorem eL_at {V : av → Value} (hV : ∀ v, (V v).category = if v.1 = 1 then 2 else 1) : ∀ (vs : List av) (b i : Nat) (v : av), (eL vs)[i]? = some v → v.1 ≠ 9 → (b + i, V v) ∈ lv_args b (vs.map V)
  | [], _, _, _, h, _ => by simp [eL] at h
  | u :: vs, b, i, v, h, h9 => by
    have hc := hV u
    by_cases hu : u.1 = 1
    · simp only [eL, hu, if_true] at h
      rw [if_pos hu] at hc
      simp only [List.map_cons, lv_args, hc, if_true]
      match i, h with
      | 0, h => simp at h; subst h; exact List.mem_cons.mpr (Or.inl rfl)
      | 1, h => simp at h; subst h; exact absurd rfl h9
      | i + 2, h =>
        have h' : (eL vs)[i]? = some v := by simpa using h
        have := eL_at hV vs (b + 2) i v h' h9
        rw [show b + (i + 2) = b + 2 + i from by omega]
        exact List.mem_cons_of_mem _ this
    · simp only [eL, hu, if_false] at h
      rw [if_neg hu] at hc
      have hc2 : ¬ (V u).category = 2 := by omega
      simp only [List.map_cons, lv_args, hc2, if_false]
      match i, h with
      | 0, h => simp at h; subst h; exact List.mem_cons.mpr (Or.inl rfl)
      | i + 1, h =>
        have h' : (eL vs)[i]? = some v := by simpa using h
        have := eL_at hV vs (b + 1) i v h' h9
        rw [show b + (i + 1) = b + 1 + i from by omega]
        exact List.mem_cons_of_mem _ this
theorem lg_len {ad ros : Nat → Nat} {fm : Value} (hf : fm = .null ∨ ∃ a, fm = .ref a) : ∀ vs : List av, (lg_sl (vs.map (cv ad ros fm))).length = (lg_sl (vs.map (cv (fun _ => 0) (fun _ => 0) .null))).length
  | [] => rfl
  | v :: vs => by
    have ih := lg_len (ad := ad) (ros := ros) hf vs
    have e1 := cv_cat ad ros hf v
    have e2 := cv_cat (fun _ => 0) (fun _ => 0) (fm := .null) (Or.inl rfl) v
    simp only [lg_sl, List.map_cons, List.flatMap_cons, List.length_append, e1, e2] at ih ⊢
    rw [ih]
    congr 1
    split <;> rfl
/-- the entry: a method's body gives its contract -/
theorem CM_of {K : Launch × Nat × (Nat → Int)} {d : Nat} {y : mth} {vs : List av} {G : hp} {Q : hp → av → Prop} (hpl : plainName y.1.cls = true) (hsz : (lg_sl ((vs.map (cv (fun _ => 0) (fun _ => 0) .null)))).length ≤ y.2.2.1) (L : List av) (hL : L0 vs y.2.2.1 = L)
    (h : WP K d y 0 0 0 L [] G Q) : CM K d y vs G Q := by
  subst hL
  intro D cA ad ros fm A
  refine Met.ofW (cc := y.2.1) (maxL := y.2.2.1) (ret := y.2.2.2.1) hpl rfl ?_
  intro p e s m args below meth c s₁ B hml hv
  obtain ⟨rfl, hSW, hRH, hK, hA, hN⟩ := hv
  have hts := atoms_spec (ws := wsY y) B.pre
  have hown : s.vm.findClass y.1.cls = some m.cls := findClass_of_methodNamed B.named
  have hin : meth.name = y.1.name := (name_of_methodNamed B.named B.method).1
  have hfm := hSW.2.2.2.2.2.2.1
  have hsz2 : (lg_sl (vs.map (cv ad ros fm))).length ≤ y.2.2.1 := by rw [lg_len hfm]; exact hsz
  have hl := lv_entry (vs.map (cv ad ros fm)) hsz2
  rw [lg_entry_eq]
  generalize (lg_sl (vs.map (cv ad ros fm)) ++ List.replicate (y.2.2.1 - (lg_sl (vs.map (cv ad ros fm))).length) Slot.unset).toArray = ls at hl ⊢
  refine h p e s m _ below meth c D cA ros fm A G.1 ad _ ad s.heap [] ls ⟨⟨B.exec, B.bytes, hml, B.returns, B.notSynchronized, hown, fun q => hin.trans q, fun w hw => hts w (List.mem_cons_of_mem _ hw), hN⟩, hK, hSW, hA, ?_⟩ hRH va_S.rf (Nat.le_refl _) (fun _ _ => rfl) ⟨hl.1, hl.2.1, ?_⟩
  · intro G' v ad' H locs ls' pc hQ hR hS hn had hrt
    have hq : ∀ t : State, t.heap = H → s.WarmedH t.vm → cPost y.2.2.2.2.1 D cA ad ros fm A G Q (vs.map (cv ad ros fm)).toArray s (.returned (rvo (cv ad' ros fm v) v)) t := fun t ht _ => ⟨⟨G', v, ad', rfl, hQ, hn, had, by rw [ht]; exact hR⟩, hS.F ht⟩
    rcases hrt with ⟨ty, e1, e2, e3, e4⟩ | ⟨e1, e2, e4⟩ | ⟨e1, e2, e4⟩ | ⟨⟨n, e1⟩, e2, e4⟩
    · obtain ⟨t0, x⟩ := v
      cases e2
      exact W.zret (v := Int32.ofInt x) (ty := ty) B.exec B.bytes (by rw [B.returns]; exact e1) e3 hq hS.2.2 e4
    · obtain ⟨t0, x⟩ := v
      cases e2
      exact W.lret (v := Int64.ofInt x) B.exec B.bytes (by rw [B.returns]; exact e1) hq hS.2.2 e4
    · obtain ⟨t0, x⟩ := v
      cases e2
      exact W.vret B.exec B.bytes (by rw [B.returns]; exact e1) hq hS.2.2 e4
    · obtain ⟨t0, x⟩ := v
      cases e2
      exact W.aret (v := .ref (ros x.toNat)) B.exec B.bytes (by rw [B.returns]; exact e1) (Or.inl ⟨_, rfl⟩) (Or.inr ⟨_, rfl⟩) hq hS.2.2 e4
  · intro i v hi h9
    have hi' : (eL vs)[i]? = some v := by
      rw [L0, List.getElem?_append] at hi
      by_cases hlt : i < (eL vs).length
      · rwa [if_pos hlt] at hi
      · rw [if_neg hlt, List.getElem?_replicate] at hi
        by_cases hq : i - (eL vs).length < y.2.2.1 - (eL vs).length
        · rw [if_pos hq] at hi; cases hi; exact absurd rfl h9
        · rw [if_neg hq] at hi; cases hi
    have hm := eL_at (V := cv ad ros fm) (cv_cat ad ros hfm) vs 0 i v hi' h9
    have := hl.2.2 _ hm
    simpa using this
/-- more may be asked of the end -/
theorem CM.mono {K : Launch × Nat × (Nat → Int)} {d : Nat} {y : mth} {vs : List av} {G : hp} {Q Q' : hp → av → Prop} (h : CM K d y vs G Q) (hQ : ∀ G' v, Q G' v → Q' G' v) : CM K d y vs G Q' := by
  intro D cA ad ros fm A p e ha hc hk s m args below hf hX hP _
  obtain ⟨t, o, h1, h2, h3, ⟨⟨⟨G', v, ad', g1, g2, g3⟩, hF⟩, hL⟩⟩ := h D cA ad ros fm A p e ha hc hk s m args below hf hX hP trivial
  exact ⟨t, o, h1, h2, h3, ⟨⟨⟨G', v, ad', g1, hQ _ _ g2, g3⟩, hF⟩, hL⟩⟩
