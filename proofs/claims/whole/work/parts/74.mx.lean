/-! CONTRACTS: the reference's tapes -/
theorem MX_tape {c c' X : ct} {t s l : Int} {f : Int → Int} (h : MX c X) (ht : 0 ≤ t ∧ t < 6) (ho : ∀ k j, ¬ (k = 152 ∨ ((k = 149 ∨ k = 150) ∧ j = t) ∨ (k = 151 ∧ 60 * t ≤ j ∧ j < 60 * t + 60)) → c' k j = c k j) (hs : c' 149 t = s) (hl : c' 150 t = l) (hf : ∀ i, 0 ≤ i → i < 60 → c' 151 (60 * t + i) = f i) : MX c' (tpX X t s l f) := by
  obtain ⟨x0, x1, x2, x3, x4, x5, x6⟩ := h
  have t0 : ∀ j, tpX X t s l f 0 j = X 0 j := fun j => tpX_0 ht.1
  have tk : ∀ k j, (k = 1 ∨ k = 2) → tpX X t s l f k j = X k j := fun k j a => by
    unfold tpX; rw [if_neg (by omega), if_neg (by omega), if_neg (by omega)]
  refine ⟨by rw [ho 108 50 (by omega), t0]; exact x0, by rw [ho 108 12 (by omega), t0]; exact x1, by rw [ho 108 10 (by omega), t0]; exact x2, by rw [ho 108 72 (by omega), t0]; exact x3, fun i a b => ?_, fun i a b e => ?_, fun u a b => ?_⟩
  · rw [t0] at b
    rw [ho 114 i (by omega), tk 1 i (Or.inl rfl)]; exact x4 i a b
  · rw [t0] at e
    rw [ho 148 i (by omega), tk 2 i (Or.inr rfl)]; exact x5 i a b e
  · obtain ⟨y1, y2, y3⟩ := x6 u a b
    by_cases z : u = t
    · subst z
      refine ⟨?_, ?_, fun i i0 i1 => ?_⟩
      · rw [hs]; unfold tpX; rw [if_pos ⟨rfl, rfl⟩]
      · rw [hl]; unfold tpX; rw [if_neg (by omega), if_pos ⟨rfl, rfl⟩]
      · rw [hf i i0 i1]; unfold tpX; rw [if_neg (by omega), if_neg (by omega), if_pos rfl]
    · refine ⟨?_, ?_, fun i i0 i1 => ?_⟩
      · rw [ho 149 u (by omega)]; unfold tpX; rw [if_neg (by omega), if_neg (by omega), if_neg (by omega)]; exact y1
      · rw [ho 150 u (by omega)]; unfold tpX; rw [if_neg (by omega), if_neg (by omega), if_neg (by omega)]; exact y2
      · rw [ho 151 _ (by omega)]; unfold tpX; rw [if_neg (by omega), if_neg (by omega), if_neg (by omega)]; exact y3 i i0 i1
theorem MSR_tape {H : hf} {c c' N I X : ct} {t s l : Int} {f : Int → Int} (h : MSR H c N I X) (hP : PU N I X) (ht : 0 ≤ t ∧ t < 6) (ho : ∀ k j, ¬ (k = 152 ∨ ((k = 149 ∨ k = 150) ∧ j = t) ∨ (k = 151 ∧ 60 * t ≤ j ∧ j < 60 * t + 60)) → c' k j = c k j) (hs : c' 149 t = s) (hl : c' 150 t = l) (hf : ∀ i, 0 ≤ i → i < 60 → c' 151 (60 * t + i) = f i) : loM c c' ∧ MSR H c' N I (tpX X t s l f) :=
  ⟨fun k a j => ho k j (by omega), MSR_misc h (tpX_0 ht.1) (fun k j a => ho k j (by omega)) (MX_tape h.2.2.2.2 ht ho hs hl hf) hP.1.2.2.1⟩
theorem n_tape {H : hf} {c N I X : ct} {K : SK} {d : Nat} {Q : ct → Int → Prop} (hM : MSR H c N I X) (hP : PU N I X) {t s n : Int} (ht : ir t) (hs : ir s) (hn : ir n) (h0 : ¬ (0 ≤ t ∧ t < 6) → Q c (-1)) (hm : ∀ c', 0 ≤ t → t < 6 → s = -1 → loM c c' → MSR H c' N I (tpX X t (-1) 0 (fun _ => 0)) → Q c' 1) (h1 : 0 ≤ t → t < 6 → s ≠ -1 → ¬ ((0 ≤ s ∧ s ≤ 4) ∧ n ≤ 60) → Q c (-2)) (h2 : 0 ≤ t → t < 6 → 0 ≤ s → s ≤ 4 → n < 0 → Q c (-14)) (h3 : ∀ c', 0 ≤ t → t < 6 → 0 ≤ s → s ≤ 4 → 0 ≤ n → n ≤ 60 → loM c c' → MSR H c' N I (tpX X t s n (fun _ => 0)) → Q c' 1) : CI K (d + 3) mX9_tape [(2, 108), (0, t), (0, s), (0, n)] c Q := by
  have loop : ∀ (l : Int), 0 ≤ t → t < 6 → (∀ c', loM c c' → MSR H c' N I (tpX X t s l (fun _ => 0)) → Q c' 1) → ∀ (m : Nat) (i : Int) (c1 : ct), i = 60 - m → 0 ≤ i → (∀ k j, ¬ (k = 152 ∨ ((k = 149 ∨ k = 150) ∧ j = t) ∨ (k = 151 ∧ 60 * t ≤ j ∧ j < 60 * t + 60)) → c1 k j = c k j) → c1 149 t = s → c1 150 t = l → (∀ q, 0 ≤ q → q < i → c1 151 (60 * t + q) = 0) → WI K (d + 3) mX9_tape 69 [(2, 108), (0, t), (9, 0), (9, 0), (0, i)] [] c1 Q := by
    intro l t0 t6 hQ m
    induction m with
    | zero =>
      intro i c1 hi i0 ho hs hl hf
      have hT := MSR_tape (f := fun _ => 0) hM hP ⟨t0, t6⟩ ho hs hl (fun q a b => hf q a (by omega))
      exact s_X9_tape_69 t i ⟨⟨by omega, by omega⟩, fun _ => hQ c1 hT.1 hT.2, fun z => absurd (by omega) z⟩
    | succ m ih =>
      intro i c1 hi i0 ho hs hl hf
      refine s_X9_tape_69 t i ⟨⟨by omega, by omega⟩, fun z => absurd z (by omega), fun _ => ⟨⟨by omega, by omega⟩, fun c3 h3 => ih (i + 1) c3 (by omega) (by omega) (fun k j a => ?_) ?_ ?_ (fun q a b => ?_)⟩⟩
      · rw [h3]; unfold up2; rw [if_neg (by omega)]; exact ho k j a
      · rw [h3, up2_ne1 (by decide)]; exact hs
      · rw [h3, up2_ne1 (by decide)]; exact hl
      · by_cases z : q = i
        · subst z; rw [h3, up2_self]
        · rw [h3, up2_ne2 (by omega)]; exact hf q a (by omega)
  have at44 : 0 ≤ t → t < 6 → (s = -1 ∨ (0 ≤ s ∧ s ≤ 4 ∧ 0 ≤ n ∧ n ≤ 60)) → WI K (d + 3) mX9_tape 44 [(2, 108), (0, t), (0, s), (0, n), (9, 0)] [] c Q := fun t0 t6 z => by
    refine s_X9_tape_44 t s n ⟨⟨t0, t6⟩, fun c1 e1 => ⟨hs, fun g => ⟨⟨t0, t6⟩, fun c5 e5 => ?_⟩, fun g => ⟨⟨t0, t6⟩, fun c7 e7 => ?_⟩⟩⟩
    · refine loop n t0 t6 (fun c' a b => h3 c' t0 t6 g (by omega) (by omega) (by omega) a b) 60 0 c5 (by decide) (by decide) (fun k j a => ?_) ?_ ?_ (fun q a b => by omega)
      · rw [e5, e1]; unfold up2; rw [if_neg (by omega), if_neg (by omega)]
      · rw [e5, up2_ne1 (by decide), e1, up2_self]
      · rw [e5, up2_self]
    · refine loop 0 t0 t6 (fun c' a b => hm c' t0 t6 (by omega) a (by rw [show s = -1 by omega] at b; exact b)) 60 0 c7 (by decide) (by decide) (fun k j a => ?_) ?_ ?_ (fun q a b => by omega)
      · rw [e7, e1]; unfold up2; rw [if_neg (by omega), if_neg (by omega)]
      · rw [e7, up2_ne1 (by decide), e1, up2_self]
      · rw [e7, up2_self]
  refine e_X9_tape t s n (s_X9_tape_0 t s n (m_isTape ht (fun z => bz (h0 z)) (fun t0 t6 => bo (m_in (d := d + 1) hs ⟨by decide, by decide⟩ ⟨by decide, by decide⟩ (fun z => bz (h1 t0 t6 (by omega) (by omega))) (fun s0 s4 => bo ⟨hs, fun g => ⟨hs, fun _ => at44 t0 t6 (by omega), fun g2 => absurd g g2⟩, fun g => ⟨hn, fun g2 => ⟨hs, fun g3 => absurd g3 g, fun _ => ⟨hn, fun g4 => at44 t0 t6 (by omega), fun g4 => h2 t0 t6 (by omega) (by omega) (by omega)⟩⟩, fun g2 => h1 t0 t6 (by omega) (by omega)⟩⟩)))))
theorem m_narrow {c : ct} {K : SK} {d : Nat} {Q : ct → Int → Prop} {s z : Int} (hs : 0 ≤ s ∧ s ≤ 4) (hz : il z) (h : Q c (nrG s z)) : CL K (d + 1) mX9_narrow [(2, 108), (0, s), (1, z)] c Q := by
  have is : ir s := ⟨by omega, by omega⟩
  unfold nrG at h
  refine e_X9_narrow s z (s_X9_narrow_0 s z ⟨fun q => ⟨ir_toInt _, ?_⟩, fun q => ⟨is, fun q2 => ⟨ir_toInt _, ?_⟩, fun q2 => ⟨is, fun q3 => ⟨ir_toInt _, ?_⟩, fun q3 => ⟨is, fun q4 => ⟨fun z0 => ?_, fun z0 => ⟨⟨hz, il0⟩, fun z8 e8 => ⟨fun y => ?_, fun y => ⟨?_, ?_⟩⟩⟩⟩, fun q4 => ⟨is, ?_⟩⟩⟩⟩⟩)
  · rw [if_pos q] at h; exact h
  · rw [if_neg q, if_pos q2] at h; exact h
  · rw [if_neg q, if_neg q2, if_pos q3] at h; exact h
  · rw [if_neg q, if_neg q2, if_neg q3, if_neg (by omega), if_pos z0] at h; exact h
  · exfalso; rw [y] at e8; split at e8 <;> omega
  · rw [e8]; split <;> exact ⟨by decide, by decide⟩
  · rw [if_neg q, if_neg q2, if_neg q3, if_neg (by omega), if_neg z0] at h; exact h
  · rw [if_neg q, if_neg q2, if_neg q3, if_pos (by omega)] at h; exact h
theorem n_item {H : hf} {c N I X : ct} {K : SK} {d : Nat} {Q : ct → Int → Prop} (hM : MSR H c N I X) (hP : PU N I X) {t i z : Int} (ht : ir t) (hi : ir i) (hz : il z) (h0 : ¬ (0 ≤ t ∧ t < 6) → Q c (-1)) (h1 : 0 ≤ t → t < 6 → X 3 t = -1 → Q c (-11)) (h2 : 0 ≤ t → t < 6 → 0 ≤ X 3 t → ¬ (0 ≤ i ∧ i < X 4 t) → Q c (-13)) (h3 : ∀ c', 0 ≤ t → t < 6 → 0 ≤ X 3 t → 0 ≤ i → i < X 4 t → loM c c' → MSR H c' N I (tpX X t (X 3 t) (X 4 t) (fun j => if j = i then nrG (X 3 t) z else X (10 + t) j)) → Q c' 1) : CI K (d + 3) mX9_item [(2, 108), (0, t), (0, i), (1, z)] c Q := by
  refine e_X9_item t i z (s_X9_item_0 t i z (m_isTape ht (fun y => bz (h0 y)) (fun t0 t6 => bo ?_)))
  obtain ⟨y1, y2, y3⟩ := hM.2.2.2.2.2.2.2.2.2.2 t t0 t6
  obtain ⟨q1, q2⟩ := hP.2.2.2.2.2.2.2 t t0 t6
  rw [y1, y2]
  refine ⟨⟨t0, t6⟩, ⟨by omega, by omega⟩, fun g => ⟨⟨t0, t6⟩, m_in (d := d + 1) hi ir01.1 ⟨by omega, by omega⟩ (fun y => bz (h2 t0 t6 g (by omega))) (fun i0 i1 => bo ⟨⟨t0, t6⟩, ?_⟩)⟩, fun g => h1 t0 t6 (by omega)⟩
  rw [y1]
  refine m_narrow (d := d + 1) ⟨g, q1.2⟩ hz ⟨⟨by omega, by omega⟩, fun c14 e14 => ?_⟩
  have hT := MSR_tape (c' := c14) (s := X 3 t) (l := X 4 t) (f := fun j => if j = i then nrG (X 3 t) z else X (10 + t) j) hM hP ⟨t0, t6⟩ (fun k j a => by rw [e14]; unfold up2; rw [if_neg (by omega)]) (by rw [e14, up2_ne1 (by decide)]; exact y1) (by rw [e14, up2_ne1 (by decide)]; exact y2) (fun j j0 j1 => by
    show _ = if j = i then nrG (X 3 t) z else X (10 + t) j
    by_cases w : j = i
    · rw [w, e14, up2_self, if_pos rfl]
    · rw [e14, up2_ne2 (by omega), if_neg w]; exact y3 j j0 j1)
  exact h3 c14 t0 t6 g i0 (by omega) hT.1 hT.2
theorem n_read {H : hf} {c N I X : ct} {K : SK} {d : Nat} {Q : ct → Int → Prop} (hM : MSR H c N I X) (hP : PU N I X) {t i : Int} (ht : ir t) (hi : ir i) (h0 : ¬ ((0 ≤ t ∧ t < 6) ∧ 0 ≤ i ∧ i < X 4 t) → Q c (-9223372036854775808)) (h1 : 0 ≤ t → t < 6 → 0 ≤ i → i < X 4 t → Q c (X (10 + t) i)) : CL K (d + 3) mX9_read [(2, 108), (0, t), (0, i)] c Q := by
  refine e_X9_read t i (s_X9_read_0 t i (m_isTape ht (fun y => bz (h0 (fun q => y q.1))) (fun t0 t6 => bo ?_)))
  obtain ⟨y1, y2, y3⟩ := hM.2.2.2.2.2.2.2.2.2.2 t t0 t6
  obtain ⟨q1, q2⟩ := hP.2.2.2.2.2.2.2 t t0 t6
  rw [y1, y2]
  refine ⟨⟨t0, t6⟩, ⟨by omega, by omega⟩, fun g => h0 (by omega), fun g => ⟨⟨t0, t6⟩, m_in (d := d + 1) hi ir01.1 ⟨by omega, by omega⟩ (fun y => bz (h0 (by omega))) (fun i0 i1 => bo ⟨⟨by omega, by omega⟩, ?_⟩)⟩⟩
  rw [y3 i i0 (by omega)]
  exact h1 t0 t6 i0 (by omega)
theorem n_shift {H : hf} {c N I X : ct} {K : SK} {d : Nat} {Q : ct → Int → Prop} (hM : MSR H c N I X) (hP : PU N I X) {t i u j n : Int} (ht : ir t) (hi : ir i) (hu : ir u) (hj : ir j) (hn : ir n) (h0 : ¬ ((0 ≤ t ∧ t < 6) ∧ 0 ≤ u ∧ u < 6) → Q c (-1)) (h1 : (0 ≤ t ∧ t < 6) → (0 ≤ u ∧ u < 6) → (X 3 t = -1 ∨ X 3 u = -1) → Q c (-11)) (h2 : (0 ≤ t ∧ t < 6) → (0 ≤ u ∧ u < 6) → X 3 t ≠ -1 → X 3 u ≠ -1 → X 3 t ≠ X 3 u → Q c (-12))
    (h3 : (0 ≤ t ∧ t < 6) → (0 ≤ u ∧ u < 6) → X 3 t ≠ -1 → X 3 t = X 3 u → ¬ ((0 ≤ i ∧ 0 ≤ n ∧ i ≤ X 4 t - n) ∧ 0 ≤ j ∧ 0 ≤ n ∧ j ≤ X 4 u - n) → Q c (-13))
    (h4 : ∀ c', (0 ≤ t ∧ t < 6) → (0 ≤ u ∧ u < 6) → X 3 t ≠ -1 → X 3 t = X 3 u → (0 ≤ i ∧ 0 ≤ n ∧ i ≤ X 4 t - n) → (0 ≤ j ∧ j ≤ X 4 u - n) → loM c c' → MSR H c' N I (tpX X u (X 3 u) (X 4 u) (fun k => if j ≤ k ∧ k < j + n then X (10 + t) (i + (k - j)) else X (10 + u) k)) → Q c' n) : CI K (d + 3) mX9_shift [(2, 108), (0, t), (0, i), (0, u), (0, j), (0, n)] c Q := by
  refine e_X9_shift t i u j n (s_X9_shift_0 t i u j n (m_isTape ht (fun y => bz (h0 (fun q => y q.1))) (fun t0 t6 => bo (m_isTape hu (fun y => bz (h0 (fun q => y q.2))) (fun u0 u6 => bo ?_)))))
  obtain ⟨y1, y2, y3⟩ := hM.2.2.2.2.2.2.2.2.2.2 t t0 t6
  obtain ⟨q1, q2⟩ := hP.2.2.2.2.2.2.2 t t0 t6
  obtain ⟨w1, w2, w3⟩ := hM.2.2.2.2.2.2.2.2.2.2 u u0 u6
  obtain ⟨v1, v2⟩ := hP.2.2.2.2.2.2.2 u u0 u6
  rw [y1, y2, w1, w2]
  have T : 0 ≤ t ∧ t < 6 := ⟨t0, t6⟩
  have U : 0 ≤ u ∧ u < 6 := ⟨u0, u6⟩
  have nb : n ≤ 2147483647 := hn.2
  refine ⟨T, ⟨by omega, by omega⟩, fun g => h1 T U (Or.inl (by omega)), fun g => ⟨U, ⟨by omega, by omega⟩, fun g2 => ⟨T, U, fun g3 => ⟨hn, fun g4 => h3 T U (by omega) g3 (by omega), fun g4 => ⟨hi, fun g5 => h3 T U (by omega) g3 (by omega), fun g5 => ⟨hj, fun g6 => h3 T U (by omega) g3 (by omega), fun g6 => ⟨T, ⟨hi, ⟨by omega, by omega⟩⟩, fun g7 => h3 T U (by omega) g3 (by omega), fun g7 => ⟨U, ⟨hj, ⟨by omega, by omega⟩⟩, fun g8 => ?_, fun g8 => h3 T U (by omega) g3 (by omega)⟩⟩⟩⟩⟩, fun g3 => ⟨⟨⟨by omega, by omega⟩, ⟨by omega, by omega⟩⟩, h2 T U (by omega) (by omega) g3⟩⟩, fun g2 => h1 T U (Or.inr (by omega))⟩⟩
  have second : ∀ (m : Nat) (q : Int) (c1 : ct), q = n - m → 0 ≤ q → (∀ k j', ¬ (k = 152 ∨ ((k = 149 ∨ k = 150) ∧ j' = u) ∨ (k = 151 ∧ 60 * u ≤ j' ∧ j' < 60 * u + 60)) → c1 k j' = c k j') → c1 149 u = X 3 u → c1 150 u = X 4 u → (∀ k, 0 ≤ k → k < n → c1 152 k = X (10 + t) (i + k)) → (∀ k, 0 ≤ k → k < 60 → c1 151 (60 * u + k) = if j ≤ k ∧ k < j + q then X (10 + t) (i + (k - j)) else X (10 + u) k) → WI K (d + 3) mX9_shift 141 [(2, 108), (9, 0), (9, 0), (0, u), (0, j), (0, n), (0, q)] [] c1 Q := by
    intro m
    induction m with
    | zero =>
      intro q c1 hq q0 ho hs hl ha hf
      have : q = n := by omega
      subst this
      have hT := MSR_tape (c' := c1) (s := X 3 u) (l := X 4 u) (f := fun k => if j ≤ k ∧ k < j + q then X (10 + t) (i + (k - j)) else X (10 + u) k) hM hP U ho hs hl hf
      exact s_X9_shift_141 u j q q ⟨⟨⟨by omega, by omega⟩, hn⟩, fun _ => h4 c1 T U (by omega) g3 ⟨by omega, by omega, by omega⟩ ⟨by omega, g8⟩ hT.1 hT.2, fun z => absurd (Int.le_refl _) z⟩
    | succ m ih =>
      intro q c1 hq q0 ho hs hl ha hf
      refine s_X9_shift_141 u j n q ⟨⟨⟨by omega, by omega⟩, hn⟩, fun z => absurd z (by omega), fun _ => ⟨⟨q0, by omega⟩, ⟨by omega, by omega⟩, fun c4 e4 => ih (q + 1) c4 (by omega) (by omega) (fun k j' a => ?_) ?_ ?_ (fun k a b => ?_) (fun k a b => ?_)⟩⟩
      · rw [e4]; unfold up2; rw [if_neg (by omega)]; exact ho k j' a
      · rw [e4, up2_ne1 (by decide)]; exact hs
      · rw [e4, up2_ne1 (by decide)]; exact hl
      · rw [e4, up2_ne1 (by decide)]; exact ha k a b
      · by_cases z : k = j + q
        · rw [e4, show 60 * u + k = 60 * u + j + q by omega, up2_self, if_pos (by omega), ha q q0 (by omega), show k - j = q by omega]
        · rw [e4, up2_ne2 (by omega), hf k a b]
          by_cases w : j ≤ k ∧ k < j + q
          · rw [if_pos w, if_pos (by omega)]
          · rw [if_neg w, if_neg (by omega)]
  have first : ∀ (m : Nat) (q : Int) (c1 : ct), q = n - m → 0 ≤ q → (∀ k, k ≠ 152 → ∀ j', c1 k j' = c k j') → (∀ k, 0 ≤ k → k < q → c1 152 k = X (10 + t) (i + k)) → WI K (d + 3) mX9_shift 104 [(2, 108), (0, t), (0, i), (0, u), (0, j), (0, n), (0, q)] [] c1 Q := by
    intro m
    induction m with
    | zero =>
      intro q c1 hq q0 ho ha
      refine s_X9_shift_104 t i u j n q ⟨⟨⟨by omega, by omega⟩, hn⟩, fun _ => second n.toNat 0 c1 (by omega) (by decide) (fun k j' a => ho k (by omega) j') (by rw [ho 149 (by decide)]; exact w1) (by rw [ho 150 (by decide)]; exact w2) (fun k a b => ha k a (by omega)) (fun k a b => ?_), fun z => absurd (by omega) z⟩
      rw [ho 151 (by decide), if_neg (by omega)]; exact w3 k a b
    | succ m ih =>
      intro q c1 hq q0 ho ha
      refine s_X9_shift_104 t i u j n q ⟨⟨⟨by omega, by omega⟩, hn⟩, fun z => absurd z (by omega), fun _ => ⟨⟨by omega, by omega⟩, ⟨q0, by omega⟩, fun c4 e4 => ih (q + 1) c4 (by omega) (by omega) (fun k a j' => ?_) (fun k a b => ?_)⟩⟩
      · rw [e4, up2_ne1 a]; exact ho k a j'
      · by_cases z : k = q
        · subst z
          rw [e4, up2_self, ho 151 (by decide), show 60 * t + i + k = 60 * t + (i + k) by omega, y3 (i + k) (by omega) (by omega)]
        · rw [e4, up2_ne2 z]; exact ha k a (by omega)
  exact first n.toNat 0 c (by omega) (by decide) (fun _ _ _ => rfl) (fun k a b => by omega)
theorem n_judge {H : hf} {c N I X : ct} {K : SK} {d : Nat} {Q : ct → Int → Prop} (hM : MSR H c N I X) (hP : PU N I X) (hIl : ∀ t, 0 ≤ t → t < 6 → ∀ i, 0 ≤ i → i < 60 → il (X (10 + t) i)) {t i : Int} (ht : ir t) (hi : ir i) (h0 : ¬ (0 ≤ t ∧ t < 6) → Q c (-1)) (h1 : 0 ≤ t → t < 6 → ¬ (X 3 t = 0 ∨ X 3 t = -1) → Q c (-12)) (h2 : 0 ≤ t → t < 6 → (X 3 t = 0 ∨ X 3 t = -1) → Q c (jdR N X t i (N 0 10).toNat 0)) : CI K (d + 3) mX9_judge [(2, 108), (0, t), (0, i)] c Q := by
  have k := hM.k hP
  have n6 := k.1.1
  refine e_X9_judge t i (s_X9_judge_0 t i (m_isTape ht (fun y => bz (h0 y)) (fun t0 t6 => bo ?_)))
  obtain ⟨y1, y2, y3⟩ := hM.2.2.2.2.2.2.2.2.2.2 t t0 t6
  obtain ⟨q1, q2⟩ := hP.2.2.2.2.2.2.2 t t0 t6
  rw [y1]
  refine ⟨⟨t0, t6⟩, ⟨by omega, by omega⟩, fun g => ?_, fun g => h1 t0 t6 (by omega)⟩
  have loop : ∀ (m : Nat) (p : Int), p = N 0 10 - m → 0 ≤ p → (p = 0 ∨ 0 ≤ i) → Q c (jdR N X t i m p) → WI K (d + 3) mX9_judge 24 [(2, 108), (0, t), (0, i), (0, p)] [] c Q := by
    intro m
    induction m with
    | zero =>
      intro p hp p0 hi0 hQ
      refine s_X9_judge_24 t i p ?_
      rw [n6.1]
      exact ⟨⟨⟨by omega, by omega⟩, ⟨by omega, by omega⟩⟩, fun _ => hQ, fun z => absurd (by omega) z⟩
    | succ m ih =>
      intro p hp p0 hi0 hQ
      have r3 := (k.1.2.2.2.2.2.2 p p0 (by omega)).2.2.1
      refine s_X9_judge_24 t i p ?_
      rw [n6.1, y1, y2, r3.1]
      rw [jdR] at hQ
      refine ⟨⟨⟨by omega, by omega⟩, ⟨by omega, by omega⟩⟩, fun z => absurd z (by omega), fun _ => ⟨⟨t0, t6⟩, ⟨by omega, by omega⟩, fun z => ?_, fun z => ⟨hi, fun z2 => ?_, fun z2 => ⟨⟨t0, t6⟩, ⟨hi, ⟨by omega, by omega⟩⟩, fun z3 => ?_, fun z3 => ?_⟩⟩⟩⟩
      · rw [if_neg (by omega)] at hQ; exact hQ
      · rw [if_neg (by omega)] at hQ; exact hQ
      · rw [if_pos (by omega)] at hQ
        rw [show 60 * t + i + p = 60 * t + (i + p) by omega, y3 (i + p) (by omega) (by omega)]
        have hl := hIl t t0 t6 (i + p) (by omega) (by omega)
        refine ⟨⟨by omega, by omega⟩, ⟨p0, by omega⟩, ⟨by omega, by omega⟩, fun z4 => ?_, fun z4 => ⟨⟨hl, ⟨by omega, by omega⟩⟩, fun z14 e14 => ⟨fun z5 => ?_, fun z5 => ⟨?_, ?_⟩⟩⟩⟩
        · rw [if_pos z4] at hQ; exact ih (p + 1) (by omega) (by omega) (Or.inr (by omega)) hQ
        · exfalso; rw [z5] at e14; split at e14 <;> omega
        · rw [e14]; split <;> exact ⟨by decide, by decide⟩
        · rw [if_neg z4] at hQ; exact hQ
      · rw [if_neg (by omega)] at hQ; exact hQ
  exact loop (N 0 10).toNat 0 (by omega) (by decide) (Or.inl rfl) (h2 t0 t6 (by omega))
