/-! CONTRACTS: the reference's years -/
theorem fd_same {H : hf} {G G' : ct} (h1 : G' 1 = G 1) (h2 : G' 2 = G 2) (h3 : G' 3 = G 3) (h6 : G' 6 = G 6) (h7 : G' 7 = G 7) (h10 : G' 0 10 = G 0 10) (h13 : G' 0 13 = G 0 13) : fdG H G' = fdG H G := by
  funext Y g
  unfold fdG smG tmG lkG fcG
  rw [h1, h2, h3, h6, h7, h10, h13]
theorem yE_snoc {f : Int → Int} {th g : Int} : ∀ (m : Nat) (Y e : Int), yE f th g (m + 1) Y e = yE f th g m Y e + goesY f th g (Y + m) (yE f th g m Y e) := by
  intro m
  induction m with
  | zero => intro Y e; simp [yE]
  | succ m ih =>
    intro Y e
    rw [yE, ih (Y + 1), yE]
    have : Y + 1 + (m : Int) = Y + ((m + 1 : Nat) : Int) := by omega
    rw [this]
theorem yU_snoc {f : Int → Int} {th g : Int} : ∀ (m : Nat) (Y e u : Int), yU f th g (m + 1) Y e u = yU f th g m Y e u + goesY f th g (Y + m) (yE f th g m Y e) := by
  intro m
  induction m with
  | zero => intro Y e u; simp [yU, yE]
  | succ m ih =>
    intro Y e u
    rw [yU, ih (Y + 1), yU, yE]
    have : Y + 1 + (m : Int) = Y + ((m + 1 : Nat) : Int) := by omega
    rw [this]
theorem yr_r {H : hf} {G : ct} {m : Nat} {k j : Int} (h : k ≠ 0) (h4 : k ≠ 4) (h5 : k ≠ 5) : yrG H G m k j = G k j := by
  unfold yrG; rw [if_neg (fun q => h q.1), if_neg h5, if_neg h4]
theorem yr_row {H : hf} {G : ct} {m : Nat} {k : Int} (h : k ≠ 0) (h4 : k ≠ 4) (h5 : k ≠ 5) : yrG H G m k = G k := funext (fun _ => yr_r h h4 h5)
theorem yr_fd {H : hf} {G : ct} {m : Nat} : fdG H (yrG H G m) = fdG H G :=
  fd_same (yr_row (by decide) (by decide) (by decide)) (yr_row (by decide) (by decide) (by decide)) (yr_row (by decide) (by decide) (by decide)) (yr_row (by decide) (by decide) (by decide)) (yr_row (by decide) (by decide) (by decide)) (yr_0 (by decide)) (yr_0 (by decide))
theorem yr_5 {H : hf} {G : ct} {m : Nat} {j : Int} : yrG H G m 5 j = yE (fun Y => fdG H G Y j) (H (G 0 13) 1 (fun _ => 0)) (G 6 j) m (G 0 12) (G 5 j) := by
  unfold yrG; rw [if_neg (show ¬ ((5 : Int) = 0 ∧ j = 12) by omega), if_pos rfl]
theorem yr_4 {H : hf} {G : ct} {m : Nat} {j : Int} : yrG H G m 4 j = yU (fun Y => fdG H G Y j) (H (G 0 13) 1 (fun _ => 0)) (G 6 j) m (G 0 12) (G 5 j) (G 4 j) := by
  unfold yrG; rw [if_neg (show ¬ ((4 : Int) = 0 ∧ j = 12) by omega), if_neg (by decide), if_pos rfl]
theorem yr_succ {H : hf} {G : ct} {m : Nat} : yrG H (yrG H G m) 1 = yrG H G (m + 1) := by
  funext k j
  by_cases h0 : k = 0
  · subst h0
    by_cases hj : j = 12
    · subst hj
      show yrG H G m 0 12 + ((1 : Nat) : Int) = G 0 12 + ((m + 1 : Nat) : Int)
      rw [yr_12]; omega
    · rw [yr_0 hj, yr_0 hj, yr_0 hj]
  · by_cases h5 : k = 5
    · subst h5
      rw [yr_5, yr_5, yr_fd, yr_0 (by decide), yr_12, yr_r (by decide) (by decide) (by decide), yr_5, yE_snoc m]
      simp [yE]
    · by_cases h4 : k = 4
      · subst h4
        rw [yr_4, yr_4, yr_fd, yr_0 (by decide), yr_12, yr_r (by decide) (by decide) (by decide), yr_5, yr_4, yU_snoc m]
        simp [yU]
      · rw [yr_r h0 h4 h5, yr_r h0 h4 h5, yr_r h0 h4 h5]
theorem yr_zero {H : hf} {G : ct} : yrG H G 0 = G := by
  funext k j
  by_cases h0 : k = 0
  · subst h0
    by_cases hj : j = 12
    · subst hj; rw [yr_12]; simp
    · rw [yr_0 hj]
  · by_cases h5 : k = 5
    · subst h5; rw [yr_5]; rfl
    · by_cases h4 : k = 4
      · subst h4; rw [yr_4]; rfl
      · rw [yr_r h0 h4 h5]
theorem DS_yr {H : hf} {G : ct} {m : Nat} (h : DS G) : DS (yrG H G m) := DS_same h (yr_0 (by decide)) (fun _ => yr_r (by decide) (by decide) (by decide))
theorem ls_r {c : ct} {w : Int} (hc : MCL c) : ∀ (n : Nat) (k a : Int), bgM c ≤ k → k + n ≤ bhM c → 0 ≤ a ∧ a ≤ 99 → 0 ≤ lsR c w n k a ∧ lsR c w n k a ≤ 99 := by
  intro n
  induction n with
  | zero => intro k a _ _ ha; exact ha
  | succ n ih =>
    intro k a hk hn ha
    rw [lsR]
    refine ih (k + 1) _ (by omega) (by omega) ?_
    split
    · exact (hc.2.2 k hk (by omega)).2
    · exact ha
theorem MK.th_r {H : hf} {c G : ct} (hK : MK H c G) : (0 ≤ H (G 0 13) 1 (fun _ => 0) ∧ H (G 0 13) 1 (fun _ => 0) ≤ 99) ∧ 0 ≤ H (G 0 13) 2 (fun _ => 0) ∧ H (G 0 13) 2 (fun _ => 0) ≤ 99 := by
  have hb := bg_r hK.cl
  rw [← hK.thi, ← hK.win]
  exact ⟨ls_r hK.cl _ _ _ (Int.le_refl _) (by omega) ⟨by decide, by decide⟩, ls_r hK.cl _ _ _ (Int.le_refl _) (by omega) ⟨by decide, by decide⟩⟩
theorem fd_b {H : hf} {c G : ct} {Y p : Int} (hK : MK H c G) (hp : 0 ≤ p ∧ p < G 0 10) : -7000 ≤ fdG H G Y p ∧ fdG H G Y p ≤ 7000 := by
  obtain ⟨e0, n0, n6⟩ := hK.1.1
  obtain ⟨r1, r2, r3, r4, r5, r6, r7⟩ := hK.1.2.2.2.2.2.2 p hp.1 hp.2
  have th := hK.th_r
  have ms : -6060 ≤ smG H G Y p ∧ smG H G Y p ≤ 6060 := by
    have := smR_bd (f := fun o => if (G 6 o = 0 ∧ ¬ G 1 o = 4) ∧ (G 3 o = aft (G 3 p) ∨ G 3 o = ahd (G 3 p)) then tmG H G Y p o else 0) (B := 1010) (G 0 10).toNat 0 (fun o a b => by
      have l : -1000 ≤ lkG H G Y p o ∧ lkG H G Y p o ≤ 1000 := mlk_r hK.2 _
      have pr : 0 ≤ sis1 (G 1 p) * sis1 (G 1 o) * G 2 p ∧ sis1 (G 1 p) * sis1 (G 1 o) * G 2 p ≤ 9 := by
        have r2 := r2.2
        rcases sis_01 (G 1 p) with e | e <;> rcases sis_01 (G 1 o) with e2 | e2 <;> rw [e, e2] <;> simp <;> omega
      have tb : -1010 ≤ tmG H G Y p o ∧ tmG H G Y p o ≤ 1010 := by
        unfold tmG
        generalize sis1 (G 1 p) * sis1 (G 1 o) * G 2 p = x at *
        generalize lkG H G Y p o = y at *
        omega
      show -1010 ≤ (if _ then tmG H G Y p o else 0) ∧ (if _ then tmG H G Y p o else 0) ≤ 1010
      split
      · exact tb
      · exact ⟨by decide, by decide⟩)
    unfold smG
    omega
  have d2 := td2_r (a := smG H G Y p) (B := 6060) (by omega)
  have t4 := tm_r (a := G 3 p) (b := 4) r3.2.1 (by decide)
  have r7' := (r7 _ t4.1 t4.2).2
  unfold fdG
  repeat' split
  all_goals omega
theorem fd_rng {H : hf} {c G : ct} {Y p : Int} (hK : MK H c G) (hp : 0 ≤ p ∧ p < G 0 10) : ir (fdG H G Y p) := by
  have := fd_b (Y := Y) hK hp
  exact ⟨by omega, by omega⟩
theorem all_b {H : hf} {c G : ct} {Y : Int} (hK : MK H c G) : -42000 ≤ allG H G Y ∧ allG H G Y ≤ 42000 := by
  obtain ⟨e0, n0, n6⟩ := hK.1.1
  have h1 := smR_bd (f := fdG H G Y) (B := 7000) (G 0 10).toNat 0 (fun j g1 g2 => fd_b hK ⟨g1, by omega⟩)
  unfold allG
  omega
theorem all_rng {H : hf} {c G : ct} {Y : Int} (hK : MK H c G) : ir (allG H G Y) := by
  have := all_b (Y := Y) hK
  exact ⟨by omega, by omega⟩
/-- what a year may change -/
def yrP (k j : Int) : Prop := k = 123 ∨ k = 124 ∨ (k = 112 ∧ 0 ≤ j ∧ j < 6) ∨ (k = 108 ∧ (j = 2 ∨ j = 4))
def offY (c c' : ct) : Prop := ∀ k j, ¬ yrP k j → c' k j = c k j
theorem offY.rf {c : ct} : offY c c := fun _ _ _ => rfl
theorem offY.trans {c c1 c2 : ct} (h1 : offY c c1) (h2 : offY c1 c2) : offY c c2 := fun k j a => (h2 k j a).trans (h1 k j a)
theorem offY.S {c c' : ct} (h : offY c c') : offS c c' := fun k j a => h k j (fun q => a (by unfold yrP at q; unfold stP; omega))
theorem yp {k j : Int} (h : k ≠ 123) (h2 : k ≠ 124) (h3 : k ≠ 112) (h4 : k ≠ 108) : ¬ yrP k j := by unfold yrP; omega
theorem m_goYear {H : hf} {c G : ct} {K : SK} {d : Nat} {Q : ct → Prop} {B : Int} (hK : MK H c G) (hB : c 108 29 = B ∧ B ≤ 2000000000) (hu : ∀ p, 0 ≤ p → p < G 0 10 → G 4 p + 1 ≤ B ∧ G 4 p + 1 ≤ 20000) (hy : G 0 12 + 1 ≤ 20000) (h : ∀ c', offY c c' → MK H c' (yrG H G 1) → Q c') : CV K (d + 5) mX9_goYear [(2, 108)] c Q := by
  obtain ⟨e0, n0, n6⟩ := hK.1.1
  have g01 : ∀ p, 0 ≤ p → p < G 0 10 → G 6 p = 0 ∨ G 6 p = 1 := fun p a b => (hK.1.2.2.2.2.2.2 p a b).2.2.2.2.2.1
  have m01 : ∀ p, 0 ≤ p → p < G 0 10 → G 5 p = 0 ∨ G 5 p = 1 := fun p a b => (hK.1.2.2.2.2.2.2 p a b).2.2.2.2.1
  have th0 := hK.th_r.1
  refine e_X9_goYear (s_X9_goYear_0 (m_layLikes hK (fun c1 h1 k1 l1 => ?_)))
  let due : Int → Int := fun p => goesY (fun Y => fdG H G Y p) (H (G 0 13) 1 (fun _ => 0)) (G 6 p) (G 0 12) (G 5 p)
  have d01 : ∀ p, 0 ≤ p → p < G 0 10 → due p = 0 ∨ (due p = 1 ∧ G 5 p = 0) := fun p a b => by
    show goesY _ _ _ _ _ = 0 ∨ _
    by_cases z : G 6 p = 0 ∧ G 5 p = 0 ∧ H (G 0 13) 1 (fun _ => 0) ≤ fdG H G (G 0 12) p
    · exact Or.inr ⟨if_pos z, z.2.1⟩
    · exact Or.inl (if_neg z)
  have d01' : ∀ p, 0 ≤ p → p < G 0 10 → due p = 0 ∨ due p = 1 := fun p a b => (d01 p a b).imp id And.left
  have fb := fun (p : Int) (a : 0 ≤ p) (b : p < G 0 10) => (hK.1.2.2.2.2.2.2 p a b)
  -- the second loop
  have second : ∀ (n : Nat) (p : Int) (c2 : ct), p = G 0 10 - n → 0 ≤ p → (∀ k, k ≠ 112 → ∀ j, c2 k j = c1 k j) → (∀ j, c2 112 j = if 0 ≤ j ∧ j < p then G 4 j + due j else c 112 j) → WV K (d + 5) mX9_goYear 72 [(2, 108), (0, mkR due (G 0 10)), (0, p)] [] c2 Q := by
    intro n
    induction n with
    | zero =>
      intro p c2 hp p0 ho h4
      have en : p = G 0 10 := by omega
      refine s_X9_goYear_72 _ p ?_
      rw [ho 108 (by decide), k1.1.1.1]
      refine ⟨⟨⟨by omega, by omega⟩, ⟨by omega, by omega⟩⟩, fun _ c3 h3 c4 h44 => ?_, fun z => absurd (by omega) z⟩
      have hm1 := k1.1
      rw [ho 108 (by decide), hm1.2.2.2.2.2.1, mk_or ⟨n0, n6⟩ m01 d01] at h3
      rw [show c3 108 4 = G 0 12 from by rw [h3, up2_ne2 (by decide), ho 108 (by decide)]; exact hm1.2.2.1.1] at h44
      subst h3; subst h44
      have hf : ∀ k j, ¬ (k = 112 ∨ (k = 108 ∧ (j = 2 ∨ j = 4))) → up2 (up2 c2 108 2 (mkR (fun p => G 5 p + due p) (G 0 10))) 108 4 (G 0 12 + 1) k j = c1 k j := fun k j a => by
        conv => lhs; unfold up2
        rw [if_neg (fun q => a (Or.inr ⟨q.1, Or.inr q.2⟩)), if_neg (fun q => a (Or.inr ⟨q.1, Or.inl q.2⟩))]
        exact ho k (fun q => a (Or.inl q)) j
      have f4 : ∀ j, up2 (up2 c2 108 2 (mkR (fun p => G 5 p + due p) (G 0 10))) 108 4 (G 0 12 + 1) 112 j = c2 112 j := fun j => by rw [up2_ne1 (by decide), up2_ne1 (by decide)]
      refine h _ (fun k j a => ?_) ⟨⟨?_, ?_, ?_, ?_, ?_, ?_, fun q a b => ?_⟩, ?_⟩
      · by_cases z : k = 112
        · subst z
          rw [f4, h4, if_neg (fun q => a (Or.inr (Or.inr (Or.inl ⟨rfl, q.1, by omega⟩))))]
        · rw [hf k j (fun q => a (q.elim (fun w => absurd w z) (fun w => Or.inr (Or.inr (Or.inr w)))))]
          exact h1 k (fun q => a (Or.inl q)) (fun q => a (Or.inr (Or.inl q))) j
      · rw [hf 108 0 (by omega), yr_0 (by decide)]; exact hm1.1
      · rw [hf 108 3 (by omega), yr_0 (by decide)]; exact hm1.2.1
      · rw [up2_self, yr_12]; exact ⟨by omega, by have := hm1.2.2.1.2.1; omega, by omega⟩
      · rw [hf 108 11 (by omega), yr_0 (by decide)]; exact hm1.2.2.2.1
      · rw [hf 108 1 (by omega), yr_0 (by decide), yr_row (by decide) (by decide) (by decide)]; exact hm1.2.2.2.2.1
      · rw [up2_ne2 (by decide), up2_self, yr_0 (by decide)]
        exact mk_congr n0 (fun p a b => by rw [yr_5]; rfl)
      · rw [yr_0 (by decide)] at b
        obtain ⟨r1, r2, r3, r4, r5, r6, r7⟩ := hm1.2.2.2.2.2.2 q a b
        rw [hf 109 q (by omega), hf 110 q (by omega), hf 111 q (by omega), f4, h4, if_pos ⟨a, by omega⟩, yr_4, yr_5, yr_r (by decide) (by decide) (by decide), yr_r (by decide) (by decide) (by decide), yr_r (by decide) (by decide) (by decide), yr_r (by decide) (by decide) (by decide)]
        have dq := d01 q a b
        have hq := (hu q a b).2
        refine ⟨r1, r2, r3, ⟨rfl, ?_, ?_⟩, ?_, r6, fun i a b => by rw [hf 113 _ (by omega), yr_r (by decide) (by decide) (by decide)]; exact r7 i a b⟩
        · show 0 ≤ G 4 q + due q
          omega
        · show G 4 q + due q ≤ 20000
          omega
        · show G 5 q + due q = 0 ∨ G 5 q + due q = 1
          omega
      · rw [yr_0 (by decide)]
        exact MHR_congr k1.2 (fun k a b j => hf k j (by omega))
    | succ n ih =>
      intro p c2 hp p0 ho h4
      have pn : p < G 0 10 := by omega
      have b := mk_bit (k := p) ⟨n0, n6⟩ d01' ⟨p0, by omega⟩
      rw [if_pos pn] at b
      refine s_X9_goYear_72 _ p ?_
      rw [ho 108 (by decide), k1.1.1.1]
      refine ⟨⟨⟨by omega, by omega⟩, ⟨by omega, by omega⟩⟩, fun z => absurd z (by omega), fun _ => m_has b.1 ⟨p0, by omega⟩ ?_⟩
      rw [b.2]
      have c4 : c2 112 p = G 4 p := by rw [h4, if_neg (by omega)]; exact (fb p p0 pn).2.2.2.1.1
      have e29 : c2 108 29 = B := by rw [ho 108 (by decide), h1 108 (by decide) (by decide)]; exact hB.1
      have hup := hu p p0 pn
      have g4 := (fb p p0 pn).2.2.2.1.2
      refine ⟨fun z => ?_, fun z => ⟨ir_01 (d01' p p0 pn), ⟨p0, by omega⟩, ?_⟩⟩
      · refine ih (p + 1) c2 (by omega) (by omega) ho (fun j => ?_)
        rw [h4]
        by_cases w : 0 ≤ j ∧ j < p
        · rw [if_pos w, if_pos (by omega)]
        · by_cases w2 : j = p
          · subst w2
            rw [if_neg w, if_pos (by omega), z, Int.add_zero]
            exact (fb _ p0 pn).2.2.2.1.1
          · rw [if_neg w, if_neg (by omega)]
      · have z1 : due p = 1 := by have := d01' p p0 pn; omega
        rw [c4, e29]
        refine m_least ⟨by omega, by omega⟩ ⟨by omega, by omega⟩ ⟨⟨p0, by omega⟩, fun c11 h11 => ?_⟩
        have : (if G 4 p + 1 < B then G 4 p + 1 else B) = G 4 p + 1 := by split <;> omega
        rw [this] at h11
        subst h11
        refine ih (p + 1) _ (by omega) (by omega) (fun k a j => by rw [up2_ne1 a]; exact ho k a j) (fun j => ?_)
        by_cases w2 : j = p
        · subst w2
          rw [up2_self, if_pos (by omega), z1]
        · rw [up2_ne2 w2, h4]
          by_cases w : 0 ≤ j ∧ j < p
          · rw [if_pos w, if_pos (by omega)]
          · rw [if_neg w, if_neg (by omega)]
  -- the first loop
  have first : ∀ (n : Nat) (p a : Int), p = G 0 10 - n → 0 ≤ p → 0 ≤ a → (p < 6 → a < pw p) → a < 64 → a + smR (fun p => due p * pw p) n p = mkR due (G 0 10) → WV K (d + 5) mX9_goYear 8 [(2, 108), (0, a), (0, p)] [] c1 Q := by
    intro n
    induction n with
    | zero =>
      intro p a hp p0 a0 ap a6 hs
      have ea : a = mkR due (G 0 10) := by simpa [smR] using hs
      refine s_X9_goYear_8 a p ?_
      rw [k1.1.1.1]
      refine ⟨⟨⟨by omega, by omega⟩, ⟨by omega, by omega⟩⟩, fun _ => ?_, fun z => absurd (by omega) z⟩
      rw [ea]
      exact second (G 0 10).toNat 0 c1 (by omega) (by decide) (fun _ _ _ => rfl) (fun j => by rw [if_neg (by omega)]; exact h1 112 (by decide) (by decide) j)
    | succ n ih =>
      intro p a hp p0 a0 ap a6 hs
      have pn : p < G 0 10 := by omega
      have ap := ap (by omega)
      rw [smR, ← Int.add_assoc] at hs
      have pwb := pw_p p
      have nxt : ∀ b : Int, (b = 0 ∨ b = 1) → 0 ≤ a + b * pw p ∧ (p + 1 < 6 → a + b * pw p < pw (p + 1)) ∧ a + b * pw p < 64 := by
        intro b hb
        refine ⟨by rcases hb with rfl | rfl <;> omega, fun q => ?_, by rcases hb with rfl | rfl <;> omega⟩
        rw [pw_s ⟨p0, by omega⟩]
        rcases hb with rfl | rfl <;> omega
      have n0' := nxt 0 (Or.inl rfl)
      have n1' := nxt 1 (Or.inr rfl)
      rw [Int.zero_mul, Int.add_zero] at n0'
      have skip : due p = 0 → WV K (d + 5) mX9_goYear 8 [(2, 108), (0, bOr a 0), (0, p + 1)] [] c1 Q := by
        intro hz
        rw [or_0 ⟨by omega, by omega⟩]
        refine ih (p + 1) a (by omega) (by omega) n0'.1 n0'.2.1 n0'.2.2 ?_
        simpa [hz] using hs
      refine s_X9_goYear_8 a p ?_
      rw [k1.1.1.1]
      have nogo : ¬ (G 6 p = 0 ∧ G 5 p = 0 ∧ H (G 0 13) 1 (fun _ => 0) ≤ fdG H G (G 0 12) p) → due p = 0 := fun z => if_neg z
      refine ⟨⟨⟨by omega, by omega⟩, ⟨by omega, by omega⟩⟩, fun z => absurd z (by omega), fun _ => m_gone k1.1 ⟨p0, pn⟩ ⟨fun z1 => m_emp k1.1 ⟨p0, pn⟩ ⟨fun z2 => m_fondBy k1.1 k1.cl k1.win (fun o a b z => l1 p o p0 pn a b z) ⟨p0, pn⟩ (m_lastOf (d := d + 2) k1.cl ⟨by decide, by decide⟩ ?_), fun z2 => ⟨ir_01 (m01 p p0 pn), skip (nogo (fun q => z2 q.2.1))⟩⟩, fun z1 => ⟨ir_01 (g01 p p0 pn), skip (nogo (fun q => z1 q.1))⟩⟩⟩
      rw [k1.thi]
      have fr := fd_rng (Y := G 0 12) k1 ⟨p0, pn⟩
      refine ⟨⟨fr, ⟨by omega, by omega⟩⟩, fun z3 => skip (nogo (fun q => by omega)), fun z3 => ?_⟩
      have dz : due p = 1 := if_pos ⟨z1, z2, show H (G 0 13) 1 (fun _ => 0) ≤ fdG H G (G 0 12) p by omega⟩
      rw [or_shl ⟨p0, by omega⟩ ⟨a0, ap⟩ (Or.inr rfl), Int.one_mul]
      rw [dz, Int.one_mul] at hs
      rw [Int.one_mul] at n1'
      exact ih (p + 1) _ (by omega) (by omega) n1'.1 n1'.2.1 n1'.2.2 hs
  exact first (G 0 10).toNat 0 0 (by omega) (by decide) (by decide) (fun _ => by decide) (by decide) (by rw [Int.zero_add]; rfl)
theorem m_goYears {H : hf} {c G : ct} {K : SK} {d : Nat} {Q : ct → Prop} {B m : Int} (hK : MK H c G) (hm : 0 ≤ m ∧ m ≤ 100) (hB : c 108 29 = B ∧ B ≤ 2000000000) (hu : ∀ p, 0 ≤ p → p < G 0 10 → G 4 p + m ≤ B ∧ G 4 p + m ≤ 20000) (hy : G 0 12 + m ≤ 20000) (h : ∀ c', offY c c' → MK H c' (yrG H G m.toNat) → Q c') : CV K (d + 6) mX9_goYears [(2, 108), (0, m)] c Q := by
  have loop : ∀ (n i : Nat) (c1 : ct), (i : Int) = m - n → offY c c1 → MK H c1 (yrG H G i) → WV K (d + 6) mX9_goYears 2 [(2, 108), (0, m), (0, (i : Int))] [] c1 Q := by
    intro n
    induction n with
    | zero =>
      intro i c1 hi ho k1
      refine s_X9_goYears_2 m i ⟨⟨⟨by omega, by omega⟩, ⟨by omega, by omega⟩⟩, fun _ => ?_, fun z => absurd (by omega) z⟩
      have e : m.toNat = i := by omega
      exact h c1 ho (by rw [e]; exact k1)
    | succ n ih =>
      intro i c1 hi ho k1
      refine s_X9_goYears_2 m i ⟨⟨⟨by omega, by omega⟩, ⟨by omega, by omega⟩⟩, fun z => absurd z (by omega), fun _ => m_goYear (B := B) k1 ⟨by rw [ho 108 29 (by unfold yrP; omega)]; exact hB.1, hB.2⟩ (fun p a b => ?_) (by rw [yr_12]; omega) (fun c2 h2 k2 => ?_)⟩
      · rw [yr_0 (by decide)] at b
        have u := hu p a b
        have m01 := (hK.1.2.2.2.2.2.2 p a b).2.2.2.2.1
        have := yU_bd (f := fun Y => fdG H G Y p) (th := H (G 0 13) 1 (fun _ => 0)) (g := G 6 p) i (G 0 12) (G 5 p) (G 4 p) m01
        rw [yr_4]
        omega
      · rw [yr_succ] at k2
        exact ih (i + 1) c2 (by omega) (ho.trans h2) k2
  exact e_X9_goYears m (s_X9_goYears_0 m (loop m.toNat 0 c (by omega) offY.rf (by rw [yr_zero]; exact hK)))
