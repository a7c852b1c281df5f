/-! HOUSES as texts: one reading, for both -/
abbrev pr3 : Type := Int × Int × List Int
/-- a test: whether it is there, where it ends (or fails), its token -/
def pT (T : Int → Int) (L a : Int) : pr3 := if fcL (nx T L a) < 0 then (0, a, []) else if cmL (nx T L (a + 1)) < 0 then (0, a + 1, []) else if dgt T L (a + 2) = 10 then (0, a + 2, []) else (1, nuE T L (a + 2), [fcL (nx T L a) * 65536 + cmL (nx T L (a + 1)) * 256 + nuV T L (a + 2)])
/-- E by factors F; x, o: behind an and, an or -/
def pE (T : Int → Int) (L : Int) (F : Int → pr3) : Nat → Int → Int → Int → pr3
  | 0, a, _, _ => (0, a, [])
  | n + 1, a, x, o =>
    if (F a).1 = 0 then (0, (F a).2.1, [])
    else if nx T L (F a).2.1 = 38 then ((pE T L F n ((F a).2.1 + 1) 1 o).1, (pE T L F n ((F a).2.1 + 1) 1 o).2.1, ((F a).2.2 ++ (if x = 0 then [] else [-2])) ++ (pE T L F n ((F a).2.1 + 1) 1 o).2.2)
    else if nx T L (F a).2.1 = 124 then ((pE T L F n ((F a).2.1 + 1) 0 1).1, (pE T L F n ((F a).2.1 + 1) 0 1).2.1, (((F a).2.2 ++ (if x = 0 then [] else [-2])) ++ (if o = 0 then [] else [-3])) ++ (pE T L F n ((F a).2.1 + 1) 0 1).2.2)
    else (1, (F a).2.1, ((F a).2.2 ++ (if x = 0 then [] else [-2])) ++ (if o = 0 then [] else [-3]))
/-- a factor, with k more nested at most -/
def pF (T : Int → Int) (L : Int) : Nat → Int → pr3
  | 0, a => if nx T L a = 40 ∨ nx T L a = 33 then (0, a, []) else pT T L a
  | k + 1, a =>
    if nx T L a = 40 then
      (if (pE T L (pF T L k) 100 (a + 1) 0 0).1 = 0 then (0, (pE T L (pF T L k) 100 (a + 1) 0 0).2.1, [])
       else if nx T L (pE T L (pF T L k) 100 (a + 1) 0 0).2.1 = 41 then (1, (pE T L (pF T L k) 100 (a + 1) 0 0).2.1 + 1, (pE T L (pF T L k) 100 (a + 1) 0 0).2.2)
       else (0, (pE T L (pF T L k) 100 (a + 1) 0 0).2.1, []))
    else if nx T L a = 33 then (if (pF T L k (a + 1)).1 = 0 then (0, (pF T L k (a + 1)).2.1, []) else (1, (pF T L k (a + 1)).2.1, (pF T L k (a + 1)).2.2 ++ [-1]))
    else pT T L a
theorem nx_lt {T : Int → Int} {L a : Int} (h : nx T L a ≠ -1) : a < L := by
  unfold nx at h
  by_cases z : a < L
  · exact z
  · rw [if_neg z] at h; exact absurd rfl h
theorem fc_lt {T : Int → Int} {L a : Int} (h : ¬ fcL (nx T L a) < 0) : a < L := nx_lt (fun e => h (by rw [e]; decide))
theorem cm_lt {T : Int → Int} {L a : Int} (h : ¬ cmL (nx T L a) < 0) : a < L := nx_lt (fun e => h (by rw [e]; decide))
theorem dg_lt {T : Int → Int} {L a : Int} (h : dgt T L a ≠ 10) : a < L := nx_lt (fun e => h (by unfold dgt; rw [e]; decide))
theorem dg_r {T : Int → Int} {L a : Int} : 0 ≤ dgt T L a ∧ (dgt T L a ≤ 9 ∨ dgt T L a = 10) := by unfold dgt; split <;> omega
theorem nu_r {T : Int → Int} {L a : Int} (h : dgt T L a ≠ 10) : (0 ≤ nuV T L a ∧ nuV T L a ≤ 99) ∧ a + 1 ≤ nuE T L a ∧ nuE T L a ≤ a + 2 ∧ nuE T L a ≤ L := by
  have h1 := dg_r (T := T) (L := L) (a := a)
  have h2 := dg_r (T := T) (L := L) (a := a + 1)
  have h3 := dg_lt h
  unfold nuV nuE
  by_cases z : dgt T L (a + 1) = 10
  · rw [if_pos z, if_pos z]; omega
  · have := dg_lt z
    rw [if_neg z, if_neg z]; omega
theorem fc_r (x : Int) : -1 ≤ fcL x ∧ fcL x < 6 := by unfold fcL; repeat' split <;> omega
theorem cm_r (x : Int) : -1 ≤ cmL x ∧ cmL x < 3 := by unfold cmL; repeat' split <;> omega
/-- what holds of each reading from a -/
def okP (L a e : Int) (r : pr3) : Prop := (a ≤ r.2.1 ∧ r.2.1 ≤ L) ∧ (r.1 = 0 ∨ r.1 = 1) ∧ (r.1 ≠ 0 → a < r.2.1 ∧ (r.2.2.length : Int) ≤ r.2.1 - a + e)
theorem pT_ok {T : Int → Int} {L a : Int} (h : a ≤ L) : okP L a 0 (pT T L a) := by
  unfold pT okP
  by_cases z1 : fcL (nx T L a) < 0
  · rw [if_pos z1]; exact ⟨⟨Int.le_refl _, h⟩, Or.inl rfl, fun w => absurd rfl w⟩
  · have l1 := fc_lt z1
    rw [if_neg z1]
    by_cases z2 : cmL (nx T L (a + 1)) < 0
    · rw [if_pos z2]; exact ⟨⟨by show a ≤ a + 1; omega, by show a + 1 ≤ L; omega⟩, Or.inl rfl, fun w => absurd rfl w⟩
    · have l2 := cm_lt z2
      rw [if_neg z2]
      by_cases z3 : dgt T L (a + 2) = 10
      · rw [if_pos z3]; exact ⟨⟨by show a ≤ a + 2; omega, by show a + 2 ≤ L; omega⟩, Or.inl rfl, fun w => absurd rfl w⟩
      · have n := nu_r z3
        rw [if_neg z3]
        refine ⟨⟨by show a ≤ nuE T L (a + 2); omega, n.2.2.2⟩, Or.inr rfl, fun _ => ⟨by show a < nuE T L (a + 2); omega, ?_⟩⟩
        show (1 : Int) ≤ nuE T L (a + 2) - a + 0
        omega
theorem x01_len {x : Int} {y : Int} (hx : x = 0 ∨ x = 1) : (((if x = 0 then [] else [y] : List Int)).length : Int) = x := by rcases hx with rfl | rfl <;> simp
theorem pE_ok {T : Int → Int} {L : Int} {F : Int → pr3} (hF : ∀ a, a ≤ L → okP L a 0 (F a)) : ∀ (n : Nat) (a x o : Int), a ≤ L → (x = 0 ∨ x = 1) → (o = 0 ∨ o = 1) → okP L a (x + o) (pE T L F n a x o) := by
  intro n
  induction n with
  | zero => intro a x o h hx ho; exact ⟨⟨Int.le_refl _, h⟩, Or.inl rfl, fun w => absurd rfl w⟩
  | succ n ih =>
    intro a x o h hx ho
    obtain ⟨⟨f1, f2⟩, f3, f4⟩ := hF a h
    rw [pE]
    by_cases z : (F a).1 = 0
    · rw [if_pos z]; exact ⟨⟨f1, f2⟩, Or.inl rfl, fun w => absurd rfl w⟩
    · rw [if_neg z]
      obtain ⟨f5, f6⟩ := f4 z
      have lx := x01_len (y := -2) hx
      have lo := x01_len (y := -3) ho
      by_cases z2 : nx T L (F a).2.1 = 38
      · have l2 := nx_lt (T := T) (L := L) (a := (F a).2.1) (by omega)
        obtain ⟨⟨g1, g2⟩, g3, g4⟩ := ih ((F a).2.1 + 1) 1 o (by omega) (Or.inr rfl) ho
        rw [if_pos z2]
        refine ⟨⟨by show a ≤ (pE T L F n ((F a).2.1 + 1) 1 o).2.1; omega, g2⟩, g3, fun w => ?_⟩
        have := g4 w
        refine ⟨by show a < (pE T L F n ((F a).2.1 + 1) 1 o).2.1; omega, ?_⟩
        show (((((F a).2.2 ++ (if x = 0 then [] else [-2])) ++ (pE T L F n ((F a).2.1 + 1) 1 o).2.2).length : Nat) : Int) ≤ (pE T L F n ((F a).2.1 + 1) 1 o).2.1 - a + (x + o)
        rw [List.length_append, List.length_append]
        omega
      · rw [if_neg z2]
        by_cases z3 : nx T L (F a).2.1 = 124
        · have l2 := nx_lt (T := T) (L := L) (a := (F a).2.1) (by omega)
          obtain ⟨⟨g1, g2⟩, g3, g4⟩ := ih ((F a).2.1 + 1) 0 1 (by omega) (Or.inl rfl) (Or.inr rfl)
          rw [if_pos z3]
          refine ⟨⟨by show a ≤ (pE T L F n ((F a).2.1 + 1) 0 1).2.1; omega, g2⟩, g3, fun w => ?_⟩
          have := g4 w
          refine ⟨by show a < (pE T L F n ((F a).2.1 + 1) 0 1).2.1; omega, ?_⟩
          show ((((((F a).2.2 ++ (if x = 0 then [] else [-2])) ++ (if o = 0 then [] else [-3])) ++ (pE T L F n ((F a).2.1 + 1) 0 1).2.2).length : Nat) : Int) ≤ (pE T L F n ((F a).2.1 + 1) 0 1).2.1 - a + (x + o)
          rw [List.length_append, List.length_append, List.length_append]
          omega
        · rw [if_neg z3]
          refine ⟨⟨f1, f2⟩, Or.inr rfl, fun _ => ⟨f5, ?_⟩⟩
          show (((((F a).2.2 ++ (if x = 0 then [] else [-2])) ++ (if o = 0 then [] else [-3])).length : Nat) : Int) ≤ (F a).2.1 - a + (x + o)
          rw [List.length_append, List.length_append]
          omega
theorem pF_ok {T : Int → Int} {L : Int} : ∀ (k : Nat) (a : Int), a ≤ L → okP L a 0 (pF T L k a) := by
  intro k
  induction k with
  | zero =>
    intro a h
    rw [pF]
    split
    · exact ⟨⟨Int.le_refl _, h⟩, Or.inl rfl, fun w => absurd rfl w⟩
    · exact pT_ok h
  | succ k ih =>
    intro a h
    rw [pF]
    by_cases z : nx T L a = 40
    · have l := nx_lt (T := T) (L := L) (a := a) (by omega)
      rw [if_pos z]
      obtain ⟨⟨g1, g2⟩, g3, g4⟩ := pE_ok (T := T) (L := L) (F := pF T L k) ih 100 (a + 1) 0 0 (by omega) (Or.inl rfl) (Or.inl rfl)
      by_cases z2 : (pE T L (pF T L k) 100 (a + 1) 0 0).1 = 0
      · rw [if_pos z2]; exact ⟨⟨by show a ≤ (pE T L (pF T L k) 100 (a + 1) 0 0).2.1; omega, g2⟩, Or.inl rfl, fun w => absurd rfl w⟩
      · rw [if_neg z2]
        have g5 := g4 z2
        by_cases z3 : nx T L (pE T L (pF T L k) 100 (a + 1) 0 0).2.1 = 41
        · have l2 := nx_lt (T := T) (L := L) (a := (pE T L (pF T L k) 100 (a + 1) 0 0).2.1) (by omega)
          rw [if_pos z3]
          refine ⟨⟨by show a ≤ (pE T L (pF T L k) 100 (a + 1) 0 0).2.1 + 1; omega, by show (pE T L (pF T L k) 100 (a + 1) 0 0).2.1 + 1 ≤ L; omega⟩, Or.inr rfl, fun _ => ⟨by show a < (pE T L (pF T L k) 100 (a + 1) 0 0).2.1 + 1; omega, ?_⟩⟩
          show ((pE T L (pF T L k) 100 (a + 1) 0 0).2.2.length : Int) ≤ (pE T L (pF T L k) 100 (a + 1) 0 0).2.1 + 1 - a + 0
          omega
        · rw [if_neg z3]; exact ⟨⟨by show a ≤ (pE T L (pF T L k) 100 (a + 1) 0 0).2.1; omega, g2⟩, Or.inl rfl, fun w => absurd rfl w⟩
    · rw [if_neg z]
      by_cases z1 : nx T L a = 33
      · have l := nx_lt (T := T) (L := L) (a := a) (by omega)
        rw [if_pos z1]
        obtain ⟨⟨g1, g2⟩, g3, g4⟩ := ih (a + 1) (by omega)
        by_cases z2 : (pF T L k (a + 1)).1 = 0
        · rw [if_pos z2]; exact ⟨⟨by show a ≤ (pF T L k (a + 1)).2.1; omega, g2⟩, Or.inl rfl, fun w => absurd rfl w⟩
        · rw [if_neg z2]
          have g5 := g4 z2
          refine ⟨⟨by show a ≤ (pF T L k (a + 1)).2.1; omega, g2⟩, Or.inr rfl, fun _ => ⟨by show a < (pF T L k (a + 1)).2.1; omega, ?_⟩⟩
          show (((pF T L k (a + 1)).2.2 ++ [-1]).length : Int) ≤ (pF T L k (a + 1)).2.1 - a + 0
          rw [List.length_append]; simp; omega
      · rw [if_neg z1]; exact pT_ok h
/-- tokens that take a stack from d to e, never above eleven -/
def wlk : List Int → Nat → Nat → Prop
  | [], d, e => d = e
  | x :: l, d, e => (x = -1 ∧ 1 ≤ d ∧ wlk l d e) ∨ ((x = -2 ∨ x = -3) ∧ 2 ≤ d ∧ wlk l (d - 1) e) ∨ (tokT x ∧ d ≤ 10 ∧ wlk l (d + 1) e)
theorem wlk_app : ∀ (l r : List Int) (d e f : Nat), wlk l d e → wlk r e f → wlk (l ++ r) d f := by
  intro l
  induction l with
  | nil => intro r d e f h1 h2; rw [show d = e from h1]; exact h2
  | cons x l ih =>
    intro r d e f h1 h2
    rw [List.cons_append]
    rcases h1 with ⟨a, b, c⟩ | ⟨a, b, c⟩ | ⟨a, b, c⟩
    · exact Or.inl ⟨a, b, ih r d e f c h2⟩
    · exact Or.inr (Or.inl ⟨a, b, ih r _ e f c h2⟩)
    · exact Or.inr (Or.inr ⟨a, b, ih r _ e f c h2⟩)
theorem pT_wl {T : Int → Int} {L a : Int} {d : Nat} (h : (pT T L a).1 ≠ 0) (hd : d ≤ 10) : wlk (pT T L a).2.2 d (d + 1) := by
  unfold pT at h ⊢
  by_cases z1 : fcL (nx T L a) < 0
  · rw [if_pos z1] at h; exact absurd rfl h
  · rw [if_neg z1] at h ⊢
    by_cases z2 : cmL (nx T L (a + 1)) < 0
    · rw [if_pos z2] at h; exact absurd rfl h
    · rw [if_neg z2] at h ⊢
      by_cases z3 : dgt T L (a + 2) = 10
      · rw [if_pos z3] at h; exact absurd rfl h
      · rw [if_neg z3]
        have n := (nu_r z3).1
        have f := fc_r (nx T L a)
        have s := cm_r (nx T L (a + 1))
        exact Or.inr (Or.inr ⟨⟨(fcL (nx T L a)).toNat, (cmL (nx T L (a + 1))).toNat, (nuV T L (a + 2)).toNat, by omega, by omega, by omega, by omega⟩, hd, rfl⟩)
theorem pE_wl {T : Int → Int} {L : Int} {F : Int → pr3} {k d : Nat} (hF : ∀ a e, (F a).1 ≠ 0 → e + 2 * k ≤ 10 → wlk (F a).2.2 e (e + 1)) (hd : d + 2 + 2 * k ≤ 10) : ∀ (n : Nat) (a : Int) (x o : Nat), x ≤ 1 → o ≤ 1 → (pE T L F n a x o).1 ≠ 0 → wlk (pE T L F n a x o).2.2 (d + x + o) (d + 1) := by
  intro n
  induction n with
  | zero => intro a x o _ _ h; exact absurd rfl h
  | succ n ih =>
    intro a x o hx ho h
    rw [pE] at h ⊢
    by_cases z : (F a).1 = 0
    · rw [if_pos z] at h; exact absurd rfl h
    · rw [if_neg z] at h ⊢
      have w1 := hF a (d + x + o) z (by omega)
      have wx : wlk (if (x : Int) = 0 then [] else [-2]) (d + x + o + 1) (d + o + 1) := by
        have : x = 0 ∨ x = 1 := by omega
        rcases this with rfl | rfl
        · exact rfl
        · exact Or.inr (Or.inl ⟨Or.inl rfl, by omega, by show d + 1 + o + 1 - 1 = d + o + 1; omega⟩)
      have wo : wlk (if (o : Int) = 0 then [] else [-3]) (d + o + 1) (d + 1) := by
        have : o = 0 ∨ o = 1 := by omega
        rcases this with rfl | rfl
        · exact rfl
        · exact Or.inr (Or.inl ⟨Or.inr rfl, by omega, rfl⟩)
      have w2 := wlk_app _ _ _ _ _ w1 wx
      by_cases z2 : nx T L (F a).2.1 = 38
      · rw [if_pos z2] at h ⊢
        have := ih ((F a).2.1 + 1) 1 o (by omega) ho h
        rw [show d + 1 + o = d + o + 1 by omega] at this
        exact wlk_app _ _ _ _ _ w2 this
      · rw [if_neg z2] at h ⊢
        have w3 := wlk_app _ _ _ _ _ w2 wo
        by_cases z3 : nx T L (F a).2.1 = 124
        · rw [if_pos z3] at h ⊢
          exact wlk_app _ _ _ _ _ w3 (ih ((F a).2.1 + 1) 0 1 (by omega) (by omega) h)
        · rw [if_neg z3]; exact w3
theorem pF_wl {T : Int → Int} {L : Int} : ∀ (k : Nat) (a : Int) (d : Nat), (pF T L k a).1 ≠ 0 → d + 2 * k ≤ 10 → wlk (pF T L k a).2.2 d (d + 1) := by
  intro k
  induction k with
  | zero =>
    intro a d h hd
    rw [pF] at h ⊢
    by_cases z : nx T L a = 40 ∨ nx T L a = 33
    · rw [if_pos z] at h; exact absurd rfl h
    · rw [if_neg z] at h ⊢; exact pT_wl h (by omega)
  | succ k ih =>
    intro a d h hd
    rw [pF] at h ⊢
    by_cases z : nx T L a = 40
    · rw [if_pos z] at h ⊢
      by_cases z2 : (pE T L (pF T L k) 100 (a + 1) 0 0).1 = 0
      · rw [if_pos z2] at h; exact absurd rfl h
      · rw [if_neg z2] at h ⊢
        by_cases z3 : nx T L (pE T L (pF T L k) 100 (a + 1) 0 0).2.1 = 41
        · rw [if_pos z3]
          exact pE_wl (T := T) (L := L) (F := pF T L k) (k := k) (d := d) ih (by omega) 100 (a + 1) 0 0 (by omega) (by omega) z2
        · rw [if_neg z3] at h; exact absurd rfl h
    · rw [if_neg z] at h ⊢
      by_cases z1 : nx T L a = 33
      · rw [if_pos z1] at h ⊢
        by_cases z2 : (pF T L k (a + 1)).1 = 0
        · rw [if_pos z2] at h; exact absurd rfl h
        · rw [if_neg z2]
          exact wlk_app _ _ _ _ _ (ih (a + 1) d z2 (by omega)) (Or.inl ⟨rfl, by omega, rfl⟩)
      · rw [if_neg z1] at h ⊢; exact pT_wl h (by omega)
/-- the list lies in f from n on -/
def lsAt (f : Int → Int) (n : Int) : List Int → Prop
  | [] => True
  | x :: l => f n = x ∧ lsAt f (n + 1) l
theorem lsAt_app {f : Int → Int} : ∀ (l r : List Int) (n : Int), lsAt f n l → lsAt f (n + l.length) r → lsAt f n (l ++ r) := by
  intro l
  induction l with
  | nil => intro r n _ h; simpa using h
  | cons x l ih =>
    intro r n h1 h2
    refine ⟨h1.1, ih r (n + 1) h1.2 ?_⟩
    rw [show n + 1 + (l.length : Int) = n + (((x :: l).length : Nat) : Int) by simp only [List.length_cons]; omega]
    exact h2
theorem lsAt_congr {f g : Int → Int} : ∀ (l : List Int) (n : Int), (∀ j, n ≤ j → j < n + l.length → g j = f j) → lsAt f n l → lsAt g n l := by
  intro l
  induction l with
  | nil => intro n _ _; trivial
  | cons x l ih =>
    intro n h h1
    simp only [List.length_cons] at h
    exact ⟨by rw [h n (by omega) (by omega)]; exact h1.1, ih (n + 1) (fun j a b => h j (by omega) (by omega)) h1.2⟩
theorem lsAt_wf {f : Int → Int} : ∀ (l : List Int) (n : Int) (d : Nat), lsAt f n l → wlk l d 1 → wfT f l.length n d := by
  intro l
  induction l with
  | nil => intro n d _ h; exact h
  | cons x l ih =>
    intro n d h1 h2
    rw [List.length_cons, wfT, h1.1]
    rcases h2 with ⟨a, b, c⟩ | ⟨a, b, c⟩ | ⟨a, b, c⟩
    · exact Or.inl ⟨a, b, ih _ _ h1.2 c⟩
    · exact Or.inr (Or.inl ⟨a, b, ih _ _ h1.2 c⟩)
    · exact Or.inr (Or.inr ⟨a, b, ih _ _ h1.2 c⟩)
/-- the list worked off -/
def foL (F : Int → Int) : List Int → List Int → List Int
  | [], s => s
  | x :: l, s => foL F l (stepL F x s)
theorem evL_fo {f F : Int → Int} : ∀ (l : List Int) (n : Int) (s : List Int), lsAt f n l → evL f F l.length n s = foL F l s := by
  intro l
  induction l with
  | nil => intro n s _; rfl
  | cons x l ih =>
    intro n s h
    rw [List.length_cons, evL, foL, h.1, ih _ _ h.2]
