/-! HOUSES: clauses -/
def wdI (x : Int) : Nat := if x = 98 then 0 else if x = 115 then 1 else if x = 116 then 2 else 3
theorem wdI_r (x : Int) : wdI x < 4 := by
  unfold wdI
  repeat' split
  all_goals decide
def wdE (T : Int → Int) (L a : Int) : Int := wmE T L (wdI (nx T L a)) (wl4 (wdI (nx T L a))) 0 a
def wdF (T : Int → Int) (L a : Int) : Int := wmF T L (wdI (nx T L a)) (wl4 (wdI (nx T L a))) 0 a
/-- a clause: its word, its number, its tokens -/
abbrev cl4 : Type := Nat × Int × List Int
abbrev prC : Type := Int × Int × cl4
/-- E of a clause whose number ends at b -/
def pD (T : Int → Int) (L : Int) (s : Nat) (v b : Int) : prC := if nx T L b = 32 then (if (pE T L (pF T L 4) 100 (b + 1) 0 0).1 = 0 then (0, (pE T L (pF T L 4) 100 (b + 1) 0 0).2.1, (0, 0, [])) else (1, (pE T L (pF T L 4) 100 (b + 1) 0 0).2.1, (s, v, (pE T L (pF T L 4) 100 (b + 1) 0 0).2.2))) else (0, b, (0, 0, []))
def pC (T : Int → Int) (L a : Int) : prC := if wdF T L a = 0 then (0, wdE T L a, (0, 0, []))
  else if dgt T L (wdE T L a) = 10 then (0, wdE T L a, (0, 0, []))
  else if 2 ≤ wdI (nx T L a) then (1, nuE T L (wdE T L a), (wdI (nx T L a), nuV T L (wdE T L a), []))
  else pD T L (wdI (nx T L a)) (nuV T L (wdE T L a)) (nuE T L (wdE T L a))
/-- all clauses, n at most: the fault (-1: none), what they are -/
def pH (T : Int → Int) (L : Int) : Nat → Int → Int × List cl4
  | 0, a => (a, [])
  | n + 1, a => if (pC T L a).1 = 0 then ((pC T L a).2.1, []) else if L ≤ (pC T L a).2.1 then (-1, [(pC T L a).2.2]) else if n = 0 then ((pC T L a).2.1, []) else if nx T L (pC T L a).2.1 = 59 then ((pH T L n ((pC T L a).2.1 + 1)).1, (pC T L a).2.2 :: (pH T L n ((pC T L a).2.1 + 1)).2) else ((pC T L a).2.1, [])
theorem wc_pos {si : Nat} (hs : si < 4) {i : Int} (h0 : 0 ≤ i) (h1 : i < wl4 si) : wc si i ≠ -1 := by
  have hb := (wc_b si hs i.toNat (by omega)).2.2
  rw [show ((i.toNat : Nat) : Int) = i by omega] at hb
  omega
theorem wmE_r {T : Int → Int} {L : Int} {si : Nat} (hs : si < 4) : ∀ (n : Nat) (i a : Int), i = wl4 si - n → 0 ≤ i → a ≤ L → a ≤ wmE T L si n i a ∧ wmE T L si n i a ≤ L ∧ (wmF T L si n i a = 0 ∨ wmF T L si n i a = 1) := by
  intro n
  induction n with
  | zero => intro i a _ _ h; exact ⟨Int.le_refl _, h, Or.inr rfl⟩
  | succ n ih =>
    intro i a hi i0 h
    rw [wmE, wmF]
    by_cases z : nx T L a = wc si i
    · have w := wc_pos hs i0 (by omega)
      have l := nx_lt (T := T) (L := L) (a := a) (by rw [z]; exact w)
      rw [if_pos z, if_pos z]
      have := ih (i + 1) (a + 1) (by omega) (by omega) (by omega)
      exact ⟨by omega, this.2.1, this.2.2⟩
    · rw [if_neg z, if_neg z]; exact ⟨Int.le_refl _, h, Or.inl rfl⟩
theorem wd_r {T : Int → Int} {L a : Int} (h : a ≤ L) : a ≤ wdE T L a ∧ wdE T L a ≤ L ∧ (wdF T L a = 0 ∨ wdF T L a = 1) := wmE_r (wdI_r _) _ 0 a (by omega) (by decide) h
theorem wd_win {T : Int → Int} {L a : Int} (h : wdF T L a ≠ 0) (h3 : wdI (nx T L a) = 3) : nx T L a = 119 := by
  unfold wdF at h
  rw [h3] at h
  have e : wl4 3 = 6 + 1 := rfl
  rw [e, wmF] at h
  by_cases z : nx T L a = wc 3 0
  · rw [z]; rfl
  · rw [if_neg z] at h; exact absurd rfl h
def okC (L a : Int) (r : prC) : Prop := (a ≤ r.2.1 ∧ r.2.1 ≤ L) ∧ (r.1 = 0 ∨ r.1 = 1) ∧ (r.1 ≠ 0 → (r.2.2.2.2.length : Int) ≤ r.2.1 - a ∧ r.2.2.1 < 4 ∧ (0 ≤ r.2.2.2.1 ∧ r.2.2.2.1 ≤ 99) ∧ (2 ≤ r.2.2.1 → r.2.2.2.2 = []) ∧ (r.2.2.1 < 2 → wlk r.2.2.2.2 0 1))
theorem pC_ok {T : Int → Int} {L a : Int} (h : a ≤ L) : okC L a (pC T L a) := by
  have w := wd_r (T := T) h
  unfold pC
  by_cases z1 : wdF T L a = 0
  · rw [if_pos z1]; exact ⟨⟨w.1, w.2.1⟩, Or.inl rfl, fun q => absurd rfl q⟩
  · rw [if_neg z1]
    by_cases z2 : dgt T L (wdE T L a) = 10
    · rw [if_pos z2]; exact ⟨⟨w.1, w.2.1⟩, Or.inl rfl, fun q => absurd rfl q⟩
    · rw [if_neg z2]
      have n := nu_r z2
      by_cases z3 : 2 ≤ wdI (nx T L a)
      · rw [if_pos z3]
        refine ⟨⟨by show a ≤ nuE T L (wdE T L a); omega, n.2.2.2⟩, Or.inr rfl, fun _ => ⟨by show (0 : Int) ≤ nuE T L (wdE T L a) - a; omega, wdI_r _, n.1, fun _ => rfl, fun q => ?_⟩⟩
        have q : wdI (nx T L a) < 2 := q
        omega
      · rw [if_neg z3]
        unfold pD
        by_cases z4 : nx T L (nuE T L (wdE T L a)) = 32
        · rw [if_pos z4]
          have l := nx_lt (T := T) (L := L) (a := nuE T L (wdE T L a)) (by omega)
          obtain ⟨⟨g1, g2⟩, g3, g4⟩ := pE_ok (T := T) (L := L) (F := pF T L 4) (pF_ok 4) 100 (nuE T L (wdE T L a) + 1) 0 0 (by omega) (Or.inl rfl) (Or.inl rfl)
          by_cases z5 : (pE T L (pF T L 4) 100 (nuE T L (wdE T L a) + 1) 0 0).1 = 0
          · rw [if_pos z5]
            exact ⟨⟨by show a ≤ (pE T L (pF T L 4) 100 (nuE T L (wdE T L a) + 1) 0 0).2.1; omega, g2⟩, Or.inl rfl, fun q => absurd rfl q⟩
          · rw [if_neg z5]
            have g5 := g4 z5
            refine ⟨⟨by show a ≤ (pE T L (pF T L 4) 100 (nuE T L (wdE T L a) + 1) 0 0).2.1; omega, g2⟩, Or.inr rfl, fun _ => ⟨?_, wdI_r _, n.1, fun q => absurd q z3, fun _ => ?_⟩⟩
            · show ((pE T L (pF T L 4) 100 (nuE T L (wdE T L a) + 1) 0 0).2.2.length : Int) ≤ (pE T L (pF T L 4) 100 (nuE T L (wdE T L a) + 1) 0 0).2.1 - a
              omega
            · exact pE_wl (T := T) (L := L) (F := pF T L 4) (k := 4) (d := 0) (pF_wl 4) (by decide) 100 (nuE T L (wdE T L a) + 1) 0 0 (by decide) (by decide) z5
        · rw [if_neg z4]
          exact ⟨⟨by show a ≤ nuE T L (wdE T L a); omega, n.2.2.2⟩, Or.inl rfl, fun q => absurd rfl q⟩
/-- a clause taken down -/
def CLS (c c' : ct) (h : Int) (r : cl4) : Prop := rdF c c' h ∧ (∀ j, j < c h 1 → c' (h + 1) j = c (h + 1) j) ∧ c' h 1 = c h 1 + r.2.2.length ∧ lsAt (c' (h + 1)) (c h 1) r.2.2 ∧ AYH c' h ∧ c' h 5 = (if r.1 = 2 then r.2.1 else c h 5) ∧ c' h 6 = (if r.1 = 3 then r.2.1 else c h 6) ∧ (∀ j, j < c h 4 → c' (h + 2) j = c (h + 2) j ∧ c' (h + 3) j = c (h + 3) j) ∧ (2 ≤ r.1 → c' h 4 = c h 4) ∧ (r.1 < 2 → c' h 4 = c h 4 + 1 ∧ c' (h + 2) (c h 4) = (if r.1 = 0 then r.2.1 else -r.2.1) ∧ c' (h + 3) (c h 4) = c' h 1)
theorem k_wordFrom {K : SK} {d : Nat} {c : ct} {Q : ct → Int → Prop} {x : Int} (hx : ir x) (h : Q c ((6 + wdI x : Nat) : Int)) : CA K (d + 1) mX4_wordFrom [(0, x)] c Q := by
  unfold wdI at h
  refine e_X4_wordFrom x (s_X4_wordFrom_0 x ⟨hx, fun z => ?_, fun z => ?_, fun z => ?_, fun z => ?_⟩)
  · rw [if_pos z] at h; exact h
  · rw [if_neg (by omega), if_pos z] at h; exact h
  · rw [if_neg (by omega), if_neg (by omega), if_pos z] at h; exact h
  · rw [if_neg z.1, if_neg z.2.1, if_neg z.2.2] at h; exact h
theorem k_isClause {K : SK} {d : Nat} {h : Int} {T : Int → Int} {L : Int} {c : ct} {Q : ct → Int → Prop} (hR : RD c h T L) (hA : AYH c h) (hp : 0 ≤ c 3 3 ∧ c 3 3 ≤ L) (hc : 0 ≤ c h 1 ∧ c h 1 ≤ c 3 3) (hw : 0 ≤ c h 4 ∧ c h 4 < 10) (h0 : (pC T L (c 3 3)).1 = 0 → ∀ c', rdF c c' h → c' 3 3 = (pC T L (c 3 3)).2.1 → Q c' 0) (h1 : (pC T L (c 3 3)).1 ≠ 0 → ∀ c', CLS c c' h (pC T L (c 3 3)).2.2 → c' 3 3 = (pC T L (c 3 3)).2.1 → Q c' 1) : CI K (d + 20) mX4_isClause [(2, 3)] c Q := by
  have hh := hR.1.2
  have h7 := hou_ge hh
  have l100 := hR.2.2.1.2.2
  have hn := nx_r hR hp.1
  have w := wd_r (T := T) hp.2
  have inx : ir (nx T L (c 3 3)) := ⟨by omega, by omega⟩
  unfold pC at h0 h1
  refine e_X4_isClause (s_X4_isClause_0 (k_next (d := d + 18) hR (by omega) (k_wordFrom (d := d + 18) inx ⟨wdI (nx T L (c 3 3)), wdI_r _, rfl, k_isWord (d := d + 14) (wdI_r _) hR (by omega) (fun c1 o1 p1 v1 => ?_)⟩)))
  have p1 : c1 3 3 = wdE T L (c 3 3) := p1
  show ((wdF T L (c 3 3)) = 0 → _) ∧ _
  refine ⟨fun z => ?_, fun z => ⟨ir_01 w.2.2, ?_⟩⟩
  · rw [if_pos z] at h0
    exact h0 rfl c1 o1.F p1
  · have z : ¬ wdF T L (c 3 3) = 0 := z
    rw [if_neg z] at h0 h1
    have R1 := RD_o hR o1
    refine k_isNumber (d := d + 17) R1 (by omega) (fun z2 => bz ?_) (fun c9 z2 o9 p9 v9 => bo ?_)
    · rw [p1] at z2
      rw [if_pos z2] at h0
      exact h0 rfl c1 o1.F p1
    · rw [p1] at z2 p9 v9
      rw [if_neg z2] at h0 h1
      have n := nu_r z2
      have o2 := o1.trans o9
      have R9 := RD_o hR o2
      have t9 := rdO_TK o2 hh hA
      have e9 : ∀ k, k ≠ 3 → ∀ j, c9 k j = c k j := o2.1
      have a9 := t9.2.2.2.2.2.2
      rw [R9.1.1, v9]
      have setF : ∀ (q : Int) c', (q = 5 ∨ q = 6) → c' = up2 c9 h q (nuV T L (wdE T L (c 3 3))) → rdF c c' h ∧ AYH c' h ∧ (∀ j, c' (h + 1) j = c (h + 1) j ∧ c' (h + 2) j = c (h + 2) j ∧ c' (h + 3) j = c (h + 3) j) ∧ (∀ j, j ≠ q → c' h j = c h j) ∧ c' h q = nuV T L (wdE T L (c 3 3)) ∧ c' 3 3 = nuE T L (wdE T L (c 3 3)) := fun q c' hq e => by
        have f : ∀ k, k ≠ h → ∀ j, c' k j = c9 k j := fun k a j => by rw [e]; exact up2_ne1 a
        have g : ∀ j, j ≠ q → c' h j = c h j := fun j a => by rw [e, up2_ne2 a]; exact e9 h (by omega) j
        refine ⟨⟨fun k a b j => by rw [f k (by omega)]; exact e9 k a j, fun j a b => by rw [f 3 (by omega)]; exact o2.2 j a b⟩, ?_, fun j => ⟨by rw [f _ (by omega)]; exact e9 _ (by omega) j, by rw [f _ (by omega)]; exact e9 _ (by omega) j, by rw [f _ (by omega)]; exact e9 _ (by omega) j⟩, g, by rw [e, up2_self], by rw [f 3 (by omega)]; exact p9⟩
        refine ⟨by rw [g 7 (by omega)]; exact hA.1, fun y j a b => ?_⟩
        rw [g 7 (by omega)] at y
        rw [g 1 (by omega)] at b
        rw [f _ (by omega), e9 _ (by omega)]
        exact hA.2 y j a b
      have plain : ∀ (q : Int) (si : Nat) c', wdI (nx T L (c 3 3)) = si → 2 ≤ si → (q = 5 ∧ si = 2 ∨ q = 6 ∧ si = 3) → c' = up2 c9 h q (nuV T L (wdE T L (c 3 3))) → Q c' 1 := fun q si c' es hs hq e => by
        obtain ⟨f1, f2, f3, f4, f5, f6⟩ := setF q c' (by omega) e
        rw [if_pos (by omega)] at h1
        refine h1 (show (1 : Int) ≠ 0 by decide) c' ?_ f6
        show CLS c c' h (wdI (nx T L (c 3 3)), nuV T L (wdE T L (c 3 3)), [])
        rw [es]
        refine ⟨f1, fun j _ => (f3 j).1, by rw [f4 1 (by omega)]; simp, trivial, f2, ?_, ?_, fun j _ => ⟨(f3 j).2.1, (f3 j).2.2⟩, fun _ => f4 4 (by omega), fun y => absurd hs (by show ¬ 2 ≤ si; exact Nat.not_le.mpr y)⟩
        · rcases hq with ⟨rfl, rfl⟩ | ⟨rfl, rfl⟩
          · exact f5
          · exact f4 5 (by decide)
        · rcases hq with ⟨rfl, rfl⟩ | ⟨rfl, rfl⟩
          · exact f4 6 (by decide)
          · exact f5
      have wI : wdI (nx T L (c 3 3)) = if nx T L (c 3 3) = 98 then 0 else if nx T L (c 3 3) = 115 then 1 else if nx T L (c 3 3) = 116 then 2 else 3 := rfl
      refine ⟨fun y => ⟨hh, fun c14 e14 => plain 5 2 c14 ?_ (by decide) (Or.inl ⟨rfl, rfl⟩) e14⟩, fun y => ⟨inx, fun y2 => ⟨hh, fun c17 e17 => plain 6 3 c17 ?_ (by decide) (Or.inr ⟨rfl, rfl⟩) e17⟩, fun y2 => ⟨inx, ?_⟩⟩⟩
      · rw [wI, if_neg (by omega), if_neg (by omega), if_pos y]
      · rw [wI, if_neg (by omega), if_neg (by omega), if_neg (by omega)]
      · have s2 : wdI (nx T L (c 3 3)) < 2 := by
          by_cases q : nx T L (c 3 3) = 98
          · rw [wI, if_pos q]; decide
          · by_cases q2 : nx T L (c 3 3) = 115
            · rw [wI, if_neg q, if_pos q2]; decide
            · exact absurd (wd_win z (by rw [wI, if_neg q, if_neg q2, if_neg y])) y2
        have sb : (nx T L (c 3 3) = 98 ↔ wdI (nx T L (c 3 3)) = 0) := by
          rw [wI]
          by_cases q : nx T L (c 3 3) = 98
          · rw [if_pos q]; exact ⟨fun _ => rfl, fun _ => q⟩
          · rw [if_neg q]
            refine ⟨fun q2 => absurd q2 q, fun q2 => ?_⟩
            split at q2
            · exact absurd q2 (by decide)
            · first | exact absurd q2 (by decide) | (split at q2 <;> exact absurd q2 (by decide))
        rw [if_neg (by omega)] at h0 h1
        unfold pD at h0 h1
        refine k_isSign (d := d + 17) R9 (by omega) ⟨by decide, by decide⟩ (fun y3 => bz ?_) (fun c18 y3 o18 p18 v18 => bo ?_)
        · rw [p9] at y3
          rw [if_neg y3] at h0
          exact h0 rfl c9 o2.F p9
        · rw [p9] at y3 p18
          rw [if_pos y3] at h0 h1
          have l18 := nx_lt (T := T) (L := L) (a := nuE T L (wdE T L (c 3 3))) (by omega)
          have o3 := o2.trans o18
          have t18 := rdO_TK o3 hh hA
          have n18 := t18.2.2.2.1
          simp at n18
          have hE := k_either (e := d + 16) (k_factor (h := h) (T := T) (L := L) 4 d (by decide) (K := K)) (pF_ok 4)
          refine hE c18 _ (RD_o hR o3) t18.2.2.2.2.2.2 (by omega) (by omega) ?_ ?_
          · rw [p18]
            intro y4 c' r' p'
            rw [if_pos y4] at h0
            exact bz (h0 rfl c' (o3.F.trans r') p')
          · rw [p18]
            intro y4 c21 t21 p21
            rw [if_neg y4] at h1
            have tt := t18.trans t21
            rw [List.nil_append] at tt
            refine bo ?_
            rw [(RD_F hR tt.F).1.1]
            have fin : ∀ x, x = (if wdI (nx T L (c 3 3)) = 0 then nuV T L (wdE T L (c 3 3)) else -nuV T L (wdE T L (c 3 3))) → CV K (d + 19) mX2_addWeight [(2, h), (0, x)] c21 (fun c26 => Q c26 1) := fun x ex => by
              obtain ⟨a1, a2, a3, a4, a5, a6, a7⟩ := tt
              refine k_addWeight (d := d + 18) hh (by rw [a3 4 (by decide) (by decide)]; exact hw) (fun c' g1 g2 g3 g4 g5 => ?_)
              have e24 : c21 h 4 = c h 4 := a3 4 (by decide) (by decide)
              have g3' : c' h 4 = c h 4 + 1 := by rw [g3, e24]
              have gt : ∀ j, c' (h + 1) j = c21 (h + 1) j := fun j => g1 _ (by omega) (by omega) (by omega) j
              refine h1 (show (1 : Int) ≠ 0 by decide) c' ⟨⟨fun k b1 b2 j => by rw [g1 k (by omega) (by omega) (by omega)]; exact a1 k b1 (by omega) (by omega) j, fun j b1 b2 => by rw [g1 3 (by omega) (by omega) (by omega)]; exact a2 j b1 b2⟩, fun j b => by rw [gt]; exact a5 j b, by rw [g2 1 (by decide)]; exact a4, lsAt_congr _ _ (fun j _ _ => gt j) a6, ?_, ?_, ?_, fun j b => ⟨?_, ?_⟩, fun b => ?_, fun b => ⟨g3', ?_, ?_⟩⟩ (by rw [g1 3 (by omega) (by omega) (by omega)]; exact p21)
              · refine ⟨by rw [g2 7 (by decide)]; exact a7.1, fun b j b1 b2 => ?_⟩
                rw [g2 7 (by decide)] at b
                rw [g2 1 (by decide)] at b2
                rw [gt]; exact a7.2 b j b1 b2
              · show c' h 5 = if wdI (nx T L (c 3 3)) = 2 then _ else c h 5
                rw [if_neg (by omega), g2 5 (by decide)]; exact a3 5 (by decide) (by decide)
              · show c' h 6 = if wdI (nx T L (c 3 3)) = 3 then _ else c h 6
                rw [if_neg (by omega), g2 6 (by decide)]; exact a3 6 (by decide) (by decide)
              · rw [g4, e24, if_neg (by omega)]; exact a1 _ (by omega) (by omega) (by omega) j
              · rw [g5, e24, if_neg (by omega)]; exact a1 _ (by omega) (by omega) (by omega) j
              · have b : 2 ≤ wdI (nx T L (c 3 3)) := b
                omega
              · rw [g4, e24, if_pos rfl]; exact ex
              · rw [g5, e24, if_pos rfl, g2 1 (by decide)]
            refine ⟨hh, fun y5 => fin _ (by rw [if_pos (sb.mp y5)]), fun y5 => ⟨inx, fin _ (by rw [if_neg (fun q => y5 (sb.mpr q))])⟩⟩
