/-! CONTRACTS: the public calls, seventh lot -/
def plS (H : hf) (N M : ct) (i : Int) : ct := if N 25 i = 0 then yrG H M 1 else if N 25 i = 3 then poG M (N 26 i) else goG M (N 26 i) (if N 25 i = 1 then 1 else 0)
def enR (H : hf) (N : ct) : Nat → Int → ct → ct
  | 0, _, M => M
  | n + 1, i, M => enR H N n (i + 1) (plS H N M i)
theorem pour_off {c : ct} {t s : Int} : offT c (pourC c t s) t := by
  intro k a j
  unfold pourC
  split
  · exact up2_ne1 (by omega)
  · rw [up2_ne1 (by omega), up2_ne1 (by omega)]
theorem o_ends {H : hf} {N I X : ct} {K : SK} {d : Nat} {c : ct} {Q : ct → Int → Prop} (hC : CSR H c N I X) {w : Int} (hw : ir w) (h0 : ¬ (0 ≤ w ∧ w ≤ 1) → Q c (-1)) (h1 : ∀ c', 0 ≤ w → w ≤ 1 → loK c c' → CSR H c' N I X → Q c' (if w = 0 then emG (enR H N (N 0 24).toNat 0 N) else usG (enR H N (N 0 24).toNat 0 N) - usG N)) : CI K (d + 7) mX8_ends [(2, 0), (0, w)] c Q := by
  have hn := hC.n
  have i12 := hC.2.2.1.1.1
  have hI := hC.2.2.1.1.2.2.1
  have hb := (rws hC).2.1.2.2.1
  have loop : 0 ≤ w → w ≤ 1 → ∀ (n : Nat) (i : Int) (M c1 : ct), i = N 0 24 - n → 0 ≤ i → offT c c1 59 → RT H c1 59 M → M 0 10 = N 0 10 → M 0 12 ≤ 9999 + i → enR H N n i M = enR H N (N 0 24).toNat 0 N → WI K (d + 7) mX8_ends 27 [(2, 0), (0, w), (0, i)] [] c1 Q := by
    intro w0 w1 n
    induction n with
    | zero =>
      intro i M c1 hi y0 ho hR hn1 hm he
      have hC1 := CSR_tr hC (tr59 ho)
      have b2 : c1 16 4 = N 0 24 := (rws hC1).2.1.2.1
      have he : M = _ := he
      refine s_X8_ends_27 w i ?_
      rw [b2]
      have h := h1 c1 w0 w1 (lo59 ho) hC1
      rw [← he] at h
      refine ⟨⟨⟨by omega, by omega⟩, ⟨by omega, by omega⟩⟩, fun _ => ⟨fun z => ?_, fun z => ⟨hw, ?_⟩⟩, fun z => absurd (by omega) z⟩
      · rw [if_pos z] at h; exact g_emptyCups t59 hR h
      · rw [if_neg z] at h; exact o_usedMore (d := d + 4) hC1 hR h
    | succ n ih =>
      intro i M c1 hi y0 ho hR hn1 hm he
      have hC1 := CSR_tr hC (tr59 ho)
      obtain ⟨-, b2, -, b4⟩ := (rws hC1).2.1
      have e1 : c1 17 i = N 25 i := (b4 i y0 (by omega)).1
      have e2 : c1 18 i = N 26 i := (b4 i y0 (by omega)).2.1
      obtain ⟨v1, v2, v3⟩ := hI i y0 (by omega)
      refine s_X8_ends_27 w i ?_
      rw [b2, e1, e2]
      rw [enR] at he
      refine ⟨⟨⟨by omega, by omega⟩, ⟨by omega, by omega⟩⟩, fun z => absurd z (by omega), fun _ => ⟨⟨y0, by omega⟩, ⟨y0, by omega⟩, e_X8_tryPlanned _ _ (s_X8_tryPlanned_0 _ _ ?_)⟩⟩
      have go : ∀ v : Int, (v = 0 ∨ v = 1) → (0 ≤ N 26 i ∧ N 26 i < N 0 10) → plS H N M i = goG M (N 26 i) v → ∀ c7, c7 = up2 c1 65 (N 26 i) v → WI K (d + 7) mX8_ends 27 [(2, 0), (0, w), (0, i + 1)] [] c7 Q := by
        intro v hv hg hp c7 e7
        subst e7
        refine ih (i + 1) (plS H N M i) _ (by omega) (by omega) (ho.trans (fun k a j => up2_ne1 (by omega))) ?_ ?_ ?_ he
        · rw [hp]; exact RT_gone t59 hR hv
        · rw [hp]; exact hn1
        · rw [hp]; show M 0 12 ≤ _; omega
      refine ⟨fun z => ?_, fun z => ⟨⟨by omega, by omega⟩, fun z3 => ?_, fun z3 => ⟨⟨by omega, by omega⟩, ?_⟩⟩⟩
      · have hp : plS H N M i = yrG H M 1 := by unfold plS; rw [if_pos z]
        refine g_yearsGo t59 hR ⟨by decide, by decide⟩ (by omega) (fun c2 o2 _ r2 => ih (i + 1) (plS H N M i) c2 (by omega) (by omega) (ho.trans (yr59 o2)) (by rw [hp]; exact r2) (by rw [hp, yr_0 (by decide)]; exact hn1) ?_ he)
        rw [hp, yr_12]; show M 0 12 + ((1 : Nat) : Int) ≤ _; omega
      · have hp : plS H N M i = poG M (N 26 i) := by unfold plS; rw [if_neg z, if_pos z3]
        have hs := v3 z3
        refine g_isSeat _ ⟨by omega, by omega⟩ (fun q => absurd hs q) (fun _ _ => ⟨fun q => absurd q one_ne, fun _ => ⟨ir01.2, g_pourAt t59 hR hs (fun r => ih (i + 1) (plS H N M i) _ (by omega) (by omega) (ho.trans pour_off) (by rw [hp]; exact r) (by rw [hp, poG_n (by decide)]; exact hn1) (by rw [hp, poG_n (by decide)]; omega) he)⟩⟩)
      · have hg := v2 (by omega)
        refine s_X8_tryPlanned_38 _ _ (g_isGuest hC1 _ ⟨by omega, by omega⟩ (fun q => absurd hg q) (fun _ _ => ⟨fun q => absurd q one_ne, fun _ => ⟨ir01.2, fun z1 => ⟨⟨hg.1, by omega⟩, ?_⟩, fun z1 => ⟨⟨by omega, by omega⟩, ⟨hg.1, by omega⟩, ?_⟩⟩⟩))
        · exact go 1 (Or.inr rfl) hg (by unfold plS; rw [if_neg z, if_neg z3, if_pos z1])
        · exact go 0 (Or.inl rfl) hg (by unfold plS; rw [if_neg z, if_neg z3, if_neg z1])
  refine e_X8_ends w (s_X8_ends_0 w ⟨hw, fun z => h0 (by omega), fun z => ⟨hw, fun z2 => ?_, fun z2 => h0 (by omega)⟩⟩)
  exact g_copyFrom (d := d + 5) t59 t24 (by decide) hC.now (fun c1 o1 _ r1 => loop (by omega) z2 (N 0 24).toNat 0 N c1 (by omega) (by decide) o1 r1 rfl (by omega) rfl)
def x0X (X : ct) (p v : Int) : ct := fun k j => if k = 0 ∧ j = p then v else X k j
theorem x0_k {X : ct} {p v k j : Int} (h : k ≠ 0 ∨ j ≠ p) : x0X X p v k j = X k j := by unfold x0X; rw [if_neg (fun q => by omega)]
theorem x0_s {X : ct} {p v : Int} : x0X X p v 0 p = v := by simp [x0X]
theorem ev35 : isEve 35 := Or.inr rfl
theorem ev11 : isEve 11 := Or.inl rfl
theorem o_image {H : hf} {N I X : ct} {K : SK} {d : Nat} {c : ct} {Q : ct → Int → Prop} (hC : CSR H c N I X) (h : ∀ c', loK c c' → CSR H c' N N (x0X X 0 1) → Q c' (N 0 10)) : CI K (d + 3) mX8_image [(2, 0)] c Q := by
  refine e_X8_image (s_X8_image_0 (g_eveCopy ev35 ev11 (by decide) hC.1 hC.2.1 (fun c1 o1 r1 r2 c3 e3 => ?_)))
  have n3 : ∀ k, k ≠ 0 → ∀ j, c3 k j = c1 k j := fun k a j => by subst e3; exact up2_ne1 a
  have z3 : ∀ j, j ≠ 2 → c3 0 j = c1 0 j := fun j a => by subst e3; exact up2_ne2 a
  have s3 : c3 0 2 = 1 := by subst e3; exact up2_self
  clear e3
  have e10 : c3 24 10 = N 0 10 := by rw [n3 24 (by decide)]; exact r2.1.2.2.1.1
  rw [e10]
  obtain ⟨h1, h2, h3, h4, h5, h6⟩ := hC
  have hh : ∀ (G : ct) (e : Int), EV H c1 e G → ∀ k, hou (G 0 13) ≤ k → k ≤ hou (G 0 13) + 3 → ∀ j, c3 k j = c1 k j := fun G e hE k a b j => n3 k (by have := hou_in (EV_hou hE) a b; omega) j
  refine h c3 (fun k a j => by rw [n3 k (by omega)]; exact o1 k (by omega) j) ⟨EV_congr r2 (fun k a b j => n3 k (by omega) j) (hh _ _ r2), EV_congr r1 (fun k a b j => n3 k (by omega) j) (hh _ _ r1), ⟨h3.1, h3.1⟩, fun i a b => ?_, ?_, ?_⟩
  · rw [x0_k (Or.inr (by decide))] at b
    exact HR_congr (h4 i a b) (fun k g1 g2 j => by
      have := hou_in (hou_is (i := i) ⟨a, by have := h6.2.2.1; omega⟩) g1 g2
      rw [n3 k (by omega)]; exact o1 k (by omega) j)
  · rw [x0_k (Or.inr (by decide))]; exact ⟨h5.1, h5.1⟩
  · obtain ⟨m1, m2, m3, m4, m5, m6, m7⟩ := h6
    have lo : ∀ k, k ≠ 0 → (k ≤ 5 ∨ 96 ≤ k) → ∀ j, c3 k j = c k j := fun k a b j => by rw [n3 k a]; exact o1 k (by omega) j
    have l0 : ∀ j, j ≠ 2 → c3 0 j = c 0 j := fun j a => by rw [z3 j a]; exact o1 0 (by decide) j
    refine ⟨by rw [s3, x0_s]; exact ⟨rfl, Or.inr rfl⟩, by rw [l0 5 (by decide), x0_k (Or.inr (by decide))]; exact m2, by rw [l0 7 (by decide), x0_k (Or.inr (by decide))]; exact m3, by rw [lo 4 (by decide) (by decide), x0_k (Or.inr (by decide))]; exact m4, fun i a b => ?_, fun i a b e => ?_, fun t a b => ?_⟩
    · rw [x0_k (Or.inr (by decide))] at b
      rw [lo 1 (by decide) (by decide), x0_k (Or.inl (by decide))]; exact m5 i a b
    · rw [x0_k (Or.inr (by decide))] at e
      rw [lo 5 (by decide) (by decide), x0_k (Or.inl (by decide))]; exact m6 i a b e
    · obtain ⟨k1, k2, k3⟩ := m7 t a b
      rw [lo (96 + 2 * t) (by omega) (by omega) 1, lo (96 + 2 * t) (by omega) (by omega) 2, x0_k (Or.inl (by decide)), x0_k (Or.inl (by decide))]
      exact ⟨k1, k2, fun i i1 i2 => by rw [lo _ (by omega) (by omega), x0_k (Or.inl (by omega))]; exact k3 i i1 i2⟩
theorem o_undo {H : hf} {N I X : ct} {K : SK} {d : Nat} {c : ct} {Q : ct → Int → Prop} (hC : CSR H c N I X) (h0 : X 0 0 = 0 → Q c (-3)) (h : ∀ c', X 0 0 = 1 → loK c c' → CSR H c' I I X → Q c' (I 0 10)) : CI K (d + 3) mX8_undo [(2, 0)] c Q := by
  have m1 := hC.2.2.2.2.2.1
  have e2 := m1.1
  refine e_X8_undo (s_X8_undo_0 ?_)
  rw [e2]
  refine ⟨h0, fun z => ⟨ir_01 m1.2, g_eveCopy ev11 ev35 (by decide) hC.2.1 hC.1 (fun c1 o1 r1 r2 => ?_)⟩⟩
  have e10 : c1 24 10 = I 0 10 := r1.1.2.2.1.1
  rw [e10]
  exact h c1 (by have := m1.2; omega) (fun k a j => o1 k (by omega) j) (CSR_now hC (fun k a j => o1 k (by omega) j) r1 hC.2.2.1.2 hC.2.2.2.2.1.2)
def r_count (N X : ct) (w : Int) : Int := if w = 0 then N 0 10 else if w = 1 then X 0 2 else if w = 2 then N 0 20 else if w = 3 then N 0 24 else if w = 4 then N 0 28 else if w = 5 then X 0 1 else if w = 6 then X 0 3 else -2
theorem o_count {H : hf} {N I X : ct} {K : SK} {d : Nat} {c : ct} {Q : ct → Int → Prop} (hC : CSR H c N I X) {w : Int} (hw : ir w) (h : Q c (r_count N X w)) : CI K (d + 1) mX8_count [(2, 0), (0, w)] c Q := by
  obtain ⟨m1, m2, m3, m4, -, -, -⟩ := hC.2.2.2.2.2
  obtain ⟨a1, a2, a3⟩ := rws hC
  unfold r_count at h
  refine e_X8_count w (s_X8_count_0 w ⟨hw, fun z => ?_, fun z => ?_, fun z => ?_, fun z => ?_, fun z => ?_, fun z => ?_, fun z => ?_, fun z => ?_⟩)
  · subst z; rw [hC.n.1]; exact h
  · subst z; rw [m3.1]; exact h
  · subst z; rw [a1.2.1]; exact h
  · subst z; rw [a2.2.1]; exact h
  · subst z; rw [a3.2.1]; exact h
  · subst z; rw [m2.1]; exact h
  · subst z; rw [m4.1]; exact h
  · repeat rw [if_neg (show ¬ w = _ by omega)] at h
    exact h
def r_trace (X : ct) (a : Int) : Int := if 0 ≤ a ∧ a < 20 ∧ a < X 0 3 then X 2 a else -1
theorem o_trace {H : hf} {N I X : ct} {K : SK} {d : Nat} {c : ct} {Q : ct → Int → Prop} (hC : CSR H c N I X) {a : Int} (ha : ir a) (h : Q c (r_trace X a)) : CI K (d + 2) mX8_trace [(2, 0), (0, a)] c Q := by
  obtain ⟨m1, m2, m3, m4, -, m6, -⟩ := hC.2.2.2.2.2
  unfold r_trace at h
  refine e_X8_trace a (s_X8_trace_0 a ⟨ha, fun z => ?_, fun z => e_X0_kept (s_X0_kept_0 ?_)⟩)
  · rw [if_neg (by omega)] at h; exact h
  rw [m4.1]
  refine ⟨⟨by omega, by omega⟩, ⟨ha, ?_⟩, fun z2 => ?_, fun z2 => ?_⟩
  · split <;> exact ⟨by omega, by omega⟩
  · have q : a < 20 ∧ a < X 0 3 := by
      by_cases e : 20 < X 0 3
      · rw [if_pos e] at z2; omega
      · rw [if_neg e] at z2; omega
    refine ⟨⟨by omega, q.1⟩, ?_⟩
    rw [if_pos ⟨by omega, q.1, q.2⟩] at h
    rw [m6 a (by omega) q.1 q.2]
    exact h
  · have q : ¬ (a < 20 ∧ a < X 0 3) := by
      by_cases e : 20 < X 0 3
      · rw [if_pos e] at z2; omega
      · rw [if_neg e] at z2; omega
    rw [if_neg (fun b => q b.2)] at h; exact h
/-- whether kind k is taken for w -/
def isK (k w : Int) : Prop := w = 0 ∨ k = w ∨ (w = 1 ∧ k = 4) ∨ (w = 2 ∧ k = 5) ∨ (w = 3 ∧ k = 6)
theorem ro5 {K : SK} : roC K 5 0 = -1 ∧ roC K 5 1 = 0 ∧ roC K 5 2 = 0 ∧ roC K 5 3 = 0 ∧ roC K 5 4 = 1 ∧ roC K 5 5 = 2 ∧ roC K 5 6 = 3 := ⟨rfl, rfl, rfl, rfl, rfl, rfl, rfl⟩
theorem tk43 {K : SK} {d : Nat} {c : ct} {Q : ct → Int → Prop} {w k a n : Int} (hw : 0 ≤ w ∧ w < 7) (ha : 0 ≤ a ∧ a < 7) (hn : 0 ≤ n ∧ n < 7) (h1 : a = w → Q c k) (h2 : a ≠ w → WI K (d + 1) mX8_taken 43 [(9, 0), (9, 0), (0, w), (0, k), (0, roC K 5 a.toNat), (0, n + 1)] [] c Q) : WI K (d + 1) mX8_taken 43 [(9, 0), (9, 0), (0, w), (0, k), (0, a), (0, n)] [] c Q :=
  s_X8_taken_43 w k a n ⟨⟨by omega, by omega⟩, fun z => absurd z (by omega), fun _ => ⟨⟨by omega, by omega⟩, fun z => absurd z (by omega), fun _ => ⟨h1, fun z => ⟨⟨⟨by omega, by omega⟩, ⟨by omega, by omega⟩⟩, ha, h2 z⟩⟩⟩⟩
theorem tk_no {K : SK} {d : Nat} {c : ct} {Q : ct → Int → Prop} {w k n : Int} (hn : 0 ≤ n ∧ n < 7) (h : Q c (-12)) : WI K (d + 1) mX8_taken 43 [(9, 0), (9, 0), (0, w), (0, k), (0, -1), (0, n)] [] c Q :=
  s_X8_taken_43 w k (-1) n ⟨⟨by omega, by omega⟩, fun z => absurd z (by omega), fun _ => ⟨⟨by decide, by decide⟩, fun _ => h, fun z => absurd (by decide) z⟩⟩
theorem o_taken {H : hf} {N I X : ct} {K : SK} {d : Nat} {c : ct} {Q : ct → Int → Prop} (hC : CSR H c N I X) {p w : Int} (hp : ir p) (hw : ir w) (h0 : ¬ (0 ≤ w ∧ w < 7) → Q c (-2)) (h1 : 0 ≤ w → w < 7 → ¬ isG N p → Q c (-11)) (h2 : 0 ≤ w → w < 7 → isG N p → isK (N 1 p) w → Q c (N 1 p)) (h3 : 0 ≤ w → w < 7 → isG N p → ¬ isK (N 1 p) w → Q c (-12)) : CI K (d + 2) mX8_taken [(2, 0), (0, p), (0, w)] c Q := by
  have hn := hC.n
  refine e_X8_taken p w (s_X8_taken_0 p w ⟨hw, fun z => h0 (by omega), fun z => ⟨hw, fun z2 => ?_, fun z2 => h0 (by omega)⟩⟩)
  refine g_isGuest hC p hp (fun q => ⟨fun _ => h1 (by omega) z2 q, fun q2 => absurd rfl q2⟩) (fun g1 g2 => ⟨fun q => absurd q one_ne, fun _ => ⟨ir01.2, ⟨g1, by omega⟩, ?_⟩⟩)
  have e1 : c 25 p = N 1 p := (hC.now.2.2.2.2.1 p g1 g2).1.1
  have rk := (RT_p hC.now ⟨g1, g2⟩).1
  rw [e1]
  have y := h2 (by omega) z2 ⟨g1, g2⟩
  have n := h3 (by omega) z2 ⟨g1, g2⟩
  have hw7 : 0 ≤ w ∧ w < 7 := ⟨by omega, z2⟩
  unfold isK at y n
  rcases seven rk with e | e | e | e | e | e | e <;> rw [e] at y n ⊢
  · exact tk43 hw7 (by decide) (by decide) (fun q => y (by omega)) (fun q => tk_no (by decide) (n (by omega)))
  · exact tk43 hw7 (by decide) (by decide) (fun q => y (by omega)) (fun q => tk43 (a := 0) hw7 (by decide) (by decide) (fun q => y (by omega)) (fun q => tk_no (by decide) (n (by omega))))
  · exact tk43 hw7 (by decide) (by decide) (fun q => y (by omega)) (fun q => tk43 (a := 0) hw7 (by decide) (by decide) (fun q => y (by omega)) (fun q => tk_no (by decide) (n (by omega))))
  · exact tk43 hw7 (by decide) (by decide) (fun q => y (by omega)) (fun q => tk43 (a := 0) hw7 (by decide) (by decide) (fun q => y (by omega)) (fun q => tk_no (by decide) (n (by omega))))
  · exact tk43 hw7 (by decide) (by decide) (fun q => y (by omega)) (fun q => tk43 (a := 1) hw7 (by decide) (by decide) (fun q => y (by omega)) (fun q => tk43 (a := 0) hw7 (by decide) (by decide) (fun q => y (by omega)) (fun q => tk_no (by decide) (n (by omega)))))
  · exact tk43 hw7 (by decide) (by decide) (fun q => y (by omega)) (fun q => tk43 (a := 2) hw7 (by decide) (by decide) (fun q => y (by omega)) (fun q => tk43 (a := 0) hw7 (by decide) (by decide) (fun q => y (by omega)) (fun q => tk_no (by decide) (n (by omega)))))
  · exact tk43 hw7 (by decide) (by decide) (fun q => y (by omega)) (fun q => tk43 (a := 3) hw7 (by decide) (by decide) (fun q => y (by omega)) (fun q => tk43 (a := 0) hw7 (by decide) (by decide) (fun q => y (by omega)) (fun q => tk_no (by decide) (n (by omega)))))
