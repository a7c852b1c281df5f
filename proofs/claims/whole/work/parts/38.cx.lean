/-! CONTRACTS: the tapes -/
def tpX (X : ct) (t s l : Int) (f : Int → Int) : ct := fun k j => if k = 3 ∧ j = t then s else if k = 4 ∧ j = t then l else if k = 10 + t then f j else X k j
theorem tpX_0 {X : ct} {t s l j : Int} {f : Int → Int} (ht : 0 ≤ t) : tpX X t s l f 0 j = X 0 j := by
  unfold tpX; rw [if_neg (by omega), if_neg (by omega), if_neg (by omega)]
theorem MISC_tape {c c' X : ct} {t s l : Int} {f : Int → Int} (h : MISC c X) (ht : 0 ≤ t ∧ t < 6) (ho : ∀ k, k ≠ 96 + 2 * t → k ≠ 96 + 2 * t + 1 → ∀ j, c' k j = c k j) (hs : c' (96 + 2 * t) 1 = s ∧ -1 ≤ s ∧ s ≤ 4) (hl : c' (96 + 2 * t) 2 = l ∧ 0 ≤ l ∧ l ≤ 60 ∧ (s = -1 → l = 0)) (hf : ∀ i, 0 ≤ i → i < 60 → c' (96 + 2 * t + 1) i = f i) : MISC c' (tpX X t s l f) := by
  obtain ⟨m1, m2, m3, m4, m5, m6, m7⟩ := h
  have z : ∀ k j, k ≠ 3 → k ≠ 4 → k ≠ 10 + t → tpX X t s l f k j = X k j := fun k j a b d => by
    unfold tpX; rw [if_neg (fun q => a q.1), if_neg (fun q => b q.1), if_neg d]
  have n : ∀ k, k ≤ 95 → ∀ j, c' k j = c k j := fun k a j => ho k (by omega) (by omega) j
  refine ⟨?_, ?_, ?_, ?_, fun i a b => ?_, fun i a b d => ?_, fun u u1 u2 => ?_⟩
  · rw [n 0 (by decide), z 0 _ (by decide) (by decide) (by omega)]; exact m1
  · rw [n 0 (by decide), z 0 _ (by decide) (by decide) (by omega)]; exact m2
  · rw [n 0 (by decide), z 0 _ (by decide) (by decide) (by omega)]; exact m3
  · rw [n 4 (by decide), z 0 _ (by decide) (by decide) (by omega)]; exact m4
  · rw [z 0 _ (by decide) (by decide) (by omega)] at b
    rw [n 1 (by decide), z 1 _ (by decide) (by decide) (by omega)]; exact m5 i a b
  · rw [z 0 _ (by decide) (by decide) (by omega)] at d
    rw [n 5 (by decide), z 2 _ (by decide) (by decide) (by omega)]; exact m6 i a b d
  · by_cases e : u = t
    · subst e
      have e3 : tpX X u s l f 3 u = s := by simp [tpX]
      have e4 : tpX X u s l f 4 u = l := by simp [tpX]
      have e10 : ∀ j, tpX X u s l f (10 + u) j = f j := fun j => by unfold tpX; rw [if_neg (by omega), if_neg (by omega), if_pos rfl]
      rw [e3, e4]
      exact ⟨hs, hl, fun i i1 i2 => by rw [e10]; exact hf i i1 i2⟩
    · have e3 : tpX X t s l f 3 u = X 3 u := by unfold tpX; rw [if_neg (fun q => e q.2), if_neg (by omega), if_neg (by omega)]
      have e4 : tpX X t s l f 4 u = X 4 u := by unfold tpX; rw [if_neg (by omega), if_neg (fun q => e q.2), if_neg (by omega)]
      have e10 : ∀ j, tpX X t s l f (10 + u) j = X (10 + u) j := fun j => by unfold tpX; rw [if_neg (by omega), if_neg (by omega), if_neg (by omega)]
      rw [e3, e4, ho (96 + 2 * u) (by omega) (by omega) 1, ho (96 + 2 * u) (by omega) (by omega) 2]
      obtain ⟨k1, k2, k3⟩ := m7 u u1 u2
      exact ⟨k1, k2, fun i i1 i2 => by rw [ho _ (by omega) (by omega), e10]; exact k3 i i1 i2⟩
theorem tap_is {t : Int} (ht : 0 ≤ t ∧ t < 6) : isTap (96 + 2 * t) := by unfold isTap; omega
theorem CSR_tape {H : hf} {c c' N I X : ct} {t s l : Int} {f : Int → Int} (hC : CSR H c N I X) (ht : 0 ≤ t ∧ t < 6) (ho : ∀ k, k ≠ 96 + 2 * t → k ≠ 96 + 2 * t + 1 → ∀ j, c' k j = c k j) (hs : c' (96 + 2 * t) 1 = s ∧ -1 ≤ s ∧ s ≤ 4) (hl : c' (96 + 2 * t) 2 = l ∧ 0 ≤ l ∧ l ≤ 60 ∧ (s = -1 → l = 0)) (hf : ∀ i, 0 ≤ i → i < 60 → c' (96 + 2 * t + 1) i = f i) : CSR H c' N I (tpX X t s l f) :=
  CSR_misc hC (fun k a j => ho k (by omega) (by omega) j) (tpX_0 ht.1) (MISC_tape hC.2.2.2.2.2 ht ho hs hl hf)
theorem k_become {K : SK} {d : Nat} {c : ct} {Q : ct → Prop} {t s l : Int} (ht : isTap t) (h : ∀ c', (∀ k, k ≠ t → k ≠ t + 1 → ∀ j, c' k j = c k j) → c' t 1 = s → c' t 2 = l → (∀ i, 0 ≤ i → i < 60 → c' (t + 1) i = 0) → Q c') : CV K (d + 1) mX7_become [(2, t), (0, s), (0, l)] c Q := by
  have loop : ∀ (n : Nat) (i : Int) (c1 : ct), i = 60 - n → 0 ≤ i → (∀ k, k ≠ t → k ≠ t + 1 → ∀ j, c1 k j = c k j) → c1 t 1 = s → c1 t 2 = l → (∀ j, 0 ≤ j → j < i → c1 (t + 1) j = 0) → WV K (d + 1) mX7_become 12 [(2, t), (9, 0), (9, 0), (0, i)] [] c1 Q := by
    intro n
    induction n with
    | zero =>
      intro i c1 hi h0 ho h1 h2 hz
      exact s_X7_become_12 t ht i ⟨⟨by omega, by omega⟩, fun _ => h c1 ho h1 h2 (fun j a b => hz j a (by omega)), fun z => absurd (by omega) z⟩
    | succ n ih =>
      intro i c1 hi h0 ho h1 h2 hz
      refine s_X7_become_12 t ht i ⟨⟨by omega, by omega⟩, fun z => absurd z (by omega), fun _ => ⟨⟨h0, by omega⟩, fun c3 e3 => ?_⟩⟩
      refine ih (i + 1) c3 (by omega) (by omega) (fun k a b j => by subst e3; rw [up2_ne1 b]; exact ho k a b j) (by subst e3; rw [up2_ne1 (by omega)]; exact h1) (by subst e3; rw [up2_ne1 (by omega)]; exact h2) (fun j a b => ?_)
      subst e3
      by_cases q : j = i
      · subst q; exact up2_self
      · rw [up2_ne2 q]; exact hz j a (by omega)
  refine e_X7_become t ht s l (s_X7_become_0 t ht s l (fun c1 e1 c2 e2 => ?_))
  refine loop 60 0 c2 (by decide) (by decide) (fun k a b j => by subst e2; rw [up2_ne1 a]; subst e1; exact up2_ne1 a) ?_ ?_ (fun j a b => absurd a (by omega))
  · subst e2; rw [up2_ne2 (by decide)]; subst e1; exact up2_self
  · subst e2; exact up2_self
theorem o_tape {H : hf} {N I X : ct} {K : SK} {d : Nat} {c : ct} {Q : ct → Int → Prop} (hC : CSR H c N I X) {t s n : Int} (ht : ir t) (hs : ir s) (hn : ir n) (h0 : ¬ (0 ≤ t ∧ t < 6) → Q c (-1)) (hm : ∀ c', 0 ≤ t → t < 6 → s = -1 → loK c c' → CSR H c' N I (tpX X t (-1) 0 (fun _ => 0)) → Q c' 1) (h1 : 0 ≤ t → t < 6 → s ≠ -1 → ¬ ((0 ≤ s ∧ s ≤ 4) ∧ n ≤ 60) → Q c (-2)) (h2 : 0 ≤ t → t < 6 → 0 ≤ s → s ≤ 4 → n < 0 → Q c (-14)) (h3 : ∀ c', 0 ≤ t → t < 6 → 0 ≤ s → s ≤ 4 → 0 ≤ n → n ≤ 60 → loK c c' → CSR H c' N I (tpX X t s n (fun _ => 0)) → Q c' 1) : CI K (d + 2) mX8_tape [(2, 0), (0, t), (0, s), (0, n)] c Q := by
  refine e_X8_tape t s n (s_X8_tape_0 t s n (g_isTape t ht (fun z => ⟨fun _ => h0 z, fun z2 => absurd rfl z2⟩) (fun t1 t2 => ⟨fun z => absurd z one_ne, fun _ => ⟨ir01.2, fun z => ⟨⟨t1, t2⟩, ?_⟩, fun z => ⟨hs, hs, fun q => h1 t1 t2 z (by omega), fun q => ⟨hs, fun q2 => h1 t1 t2 z (by omega), fun q2 => ⟨hn, fun q3 => ⟨hn, fun q4 => ⟨⟨t1, t2⟩, ?_⟩, fun q4 => h2 t1 t2 (by omega) (by omega) (by omega)⟩, fun q3 => h1 t1 t2 z (by omega)⟩⟩⟩⟩⟩)))
  · exact k_become (tap_is ⟨t1, t2⟩) (fun c' ho e1 e2 ez => hm c' t1 t2 z (fun k a j => ho k (by omega) (by omega) j) (CSR_tape hC ⟨t1, t2⟩ ho ⟨e1, by decide, by decide⟩ ⟨e2, by decide, by decide, fun _ => rfl⟩ ez))
  · exact k_become (tap_is ⟨t1, t2⟩) (fun c' ho e1 e2 ez => h3 c' t1 t2 (by omega) (by omega) q4 q3 (fun k a j => ho k (by omega) (by omega) j) (CSR_tape hC ⟨t1, t2⟩ ho ⟨e1, by omega, by omega⟩ ⟨e2, by omega, by omega, fun q5 => by omega⟩ ez))
theorem tap_r {H : hf} {c N I X : ct} (hC : CSR H c N I X) {t : Int} (ht : 0 ≤ t ∧ t < 6) : (c (96 + 2 * t) 1 = X 3 t ∧ -1 ≤ X 3 t ∧ X 3 t ≤ 4) ∧ (c (96 + 2 * t) 2 = X 4 t ∧ 0 ≤ X 4 t ∧ X 4 t ≤ 60 ∧ (X 3 t = -1 → X 4 t = 0)) ∧ ∀ i, 0 ≤ i → i < 60 → c (96 + 2 * t + 1) i = X (10 + t) i := by
  obtain ⟨-, -, -, -, -, -, m7⟩ := hC.2.2.2.2.2
  exact m7 t ht.1 ht.2
theorem g_hasPlace {H : hf} {N I X : ct} {K : SK} {d : Nat} {c : ct} {Q : ct → Int → Prop} (hC : CSR H c N I X) {t i : Int} (ht : 0 ≤ t ∧ t < 6) (hi : ir i) (h0 : ¬ (0 ≤ i ∧ i < X 4 t) → Q c 0) (h1 : 0 ≤ i → i < X 4 t → Q c 1) : CI K (d + 1) mX7_hasPlace [(2, 96 + 2 * t), (0, i)] c Q := by
  obtain ⟨-, ⟨e, l0, l1, -⟩, -⟩ := tap_r hC ht
  refine e_X7_hasPlace _ (tap_is ht) i (s_X7_hasPlace_0 _ (tap_is ht) i ?_)
  rw [e]
  exact ⟨hi, fun z => h0 (by omega), fun z => ⟨⟨hi, by omega, by omega⟩, fun z2 => h0 (by omega), fun z2 => h1 (by omega) (by omega)⟩⟩
theorem g_hasPlaces {H : hf} {N I X : ct} {K : SK} {d : Nat} {c : ct} {Q : ct → Int → Prop} (hC : CSR H c N I X) {t i n : Int} (ht : 0 ≤ t ∧ t < 6) (hi : ir i) (hn : ir n) (h0 : ¬ (0 ≤ i ∧ 0 ≤ n ∧ i ≤ X 4 t - n) → Q c 0) (h1 : 0 ≤ i → 0 ≤ n → i ≤ X 4 t - n → Q c 1) : CI K (d + 1) mX7_hasPlaces [(2, 96 + 2 * t), (0, i), (0, n)] c Q := by
  obtain ⟨-, ⟨e, l0, l1, -⟩, -⟩ := tap_r hC ht
  refine e_X7_hasPlaces _ (tap_is ht) i n (s_X7_hasPlaces_0 _ (tap_is ht) i n ?_)
  rw [e]
  have := hn.2
  exact ⟨hi, fun z => h0 (by omega), fun z => ⟨hn, fun z2 => h0 (by omega), fun z2 => ⟨⟨hi, by omega, by omega⟩, fun z3 => h0 (by omega), fun z3 => h1 (by omega) (by omega) (by omega)⟩⟩⟩
/-- what a long becomes in a row of the sort s -/
def nrG (s z : Int) : Int := if s = 0 then toB (toI z) else if s = 1 then toS (toI z) else if s = 2 then toI z else if s = 3 then z else if z = 0 then 0 else 1
theorem k_put {H : hf} {N I X : ct} {K : SK} {d : Nat} {c : ct} {Q : ct → Prop} (hC : CSR H c N I X) {t i z : Int} (ht : 0 ≤ t ∧ t < 6) (hi : 0 ≤ i ∧ i < 60) (hs : 0 ≤ X 3 t) (hz : il z) (h : ∀ c', c' = up2 c (96 + 2 * t + 1) i (nrG (X 3 t) z) → Q c') : CV K (d + 2) mX7_put [(2, 96 + 2 * t), (0, i), (1, z)] c Q := by
  obtain ⟨⟨e, s0, s4⟩, -, -⟩ := tap_r hC ht
  refine e_X7_put _ (tap_is ht) i z (s_X7_put_0 _ (tap_is ht) i z ?_)
  rw [e]
  unfold nrG at h
  refine ⟨⟨by omega, by omega⟩, fun q => ⟨ir_toInt _, hi, fun c3 e3 => h c3 ?_⟩, fun q => ⟨ir_toInt _, hi, fun c3 e3 => h c3 ?_⟩, fun q => ⟨ir_toInt _, hi, fun c3 e3 => h c3 ?_⟩, fun q => ⟨hi, fun c3 e3 => h c3 ?_⟩, fun q => ⟨fun z0 => k_X8_oneIf 0 ir01.1 ⟨ir01.1, hi, fun c3 e3 => h c3 ?_⟩, fun z0 => ⟨⟨hz, by decide, by decide⟩, fun z21 e21 => ⟨fun q2 => ?_, fun q2 => ⟨?_, k_X8_oneIf 1 ir01.2 ⟨ir01.2, hi, fun c3 e3 => h c3 ?_⟩⟩⟩⟩⟩⟩
  · rw [if_pos q]; exact e3
  · rw [if_neg (by omega), if_pos q]; exact e3
  · rw [if_neg (by omega), if_neg (by omega), if_pos q]; exact e3
  · rw [if_neg (by omega), if_neg (by omega), if_neg (by omega), if_pos q]; exact e3
  · rw [if_neg (by omega), if_neg (by omega), if_neg (by omega), if_neg (by omega), if_pos z0]; exact e3
  · exfalso; rw [q2] at e21; split at e21 <;> omega
  · rw [e21]; split <;> exact ⟨by decide, by decide⟩
  · rw [if_neg (by omega), if_neg (by omega), if_neg (by omega), if_neg (by omega), if_neg z0]; exact e3
theorem o_item {H : hf} {N I X : ct} {K : SK} {d : Nat} {c : ct} {Q : ct → Int → Prop} (hC : CSR H c N I X) {t i z : Int} (ht : ir t) (hi : ir i) (hz : il z) (h0 : ¬ (0 ≤ t ∧ t < 6) → Q c (-1)) (h1 : 0 ≤ t → t < 6 → X 3 t = -1 → Q c (-11)) (h2 : 0 ≤ t → t < 6 → 0 ≤ X 3 t → ¬ (0 ≤ i ∧ i < X 4 t) → Q c (-13)) (h3 : ∀ c', 0 ≤ t → t < 6 → 0 ≤ X 3 t → 0 ≤ i → i < X 4 t → loK c c' → CSR H c' N I (tpX X t (X 3 t) (X 4 t) (fun j => if j = i then nrG (X 3 t) z else X (10 + t) j)) → Q c' 1) : CI K (d + 3) mX8_item [(2, 0), (0, t), (0, i), (1, z)] c Q := by
  refine e_X8_item t i z (s_X8_item_0 t i z (g_isTape t ht (fun z => ⟨fun _ => h0 z, fun z2 => absurd rfl z2⟩) (fun t1 t2 => ⟨fun z => absurd z one_ne, fun _ => ⟨ir01.2, ⟨t1, t2⟩, ?_⟩⟩)))
  obtain ⟨⟨e, s0, s4⟩, ⟨e2, l0, l1, -⟩, e3⟩ := tap_r hC ⟨t1, t2⟩
  rw [e]
  refine ⟨fun q => h1 t1 t2 q, fun q => ⟨⟨by omega, by omega⟩, ⟨t1, t2⟩, g_hasPlace hC ⟨t1, t2⟩ hi (fun z => ⟨fun _ => h2 t1 t2 (by omega) z, fun z2 => absurd rfl z2⟩) (fun i1 i2 => ⟨fun z => absurd z one_ne, fun _ => ⟨ir01.2, ⟨t1, t2⟩, ?_⟩⟩)⟩⟩
  refine k_put hC ⟨t1, t2⟩ ⟨i1, by omega⟩ (by omega) hz (fun c' e' => h3 c' t1 t2 (by omega) i1 i2 (fun k a j => by subst e'; exact up2_ne1 (by omega)) (CSR_tape hC ⟨t1, t2⟩ (fun k a b j => by subst e'; exact up2_ne1 b) ?_ ?_ (fun j j1 j2 => ?_)))
  · subst e'; rw [up2_ne1 (by omega)]; exact ⟨e, s0, s4⟩
  · subst e'; rw [up2_ne1 (by omega)]; exact ⟨e2, l0, l1, fun q5 => by omega⟩
  · subst e'
    simp only [up2, true_and]
    split
    · rfl
    · exact e3 j j1 j2
theorem o_read {H : hf} {N I X : ct} {K : SK} {d : Nat} {c : ct} {Q : ct → Int → Prop} (hC : CSR H c N I X) {t i : Int} (ht : ir t) (hi : ir i) (h0 : ¬ ((0 ≤ t ∧ t < 6) ∧ 0 ≤ i ∧ i < X 4 t) → Q c (-9223372036854775808)) (h1 : 0 ≤ t → t < 6 → 0 ≤ i → i < X 4 t → Q c (X (10 + t) i)) : CL K (d + 2) mX8_read [(2, 0), (0, t), (0, i)] c Q := by
  refine e_X8_read t i (s_X8_read_0 t i (g_isTape t ht (fun z => ⟨fun _ => h0 (fun b => z b.1), fun z2 => absurd rfl z2⟩) (fun t1 t2 => ⟨fun z => absurd z one_ne, fun _ => ⟨ir01.2, ⟨t1, t2⟩, ?_⟩⟩)))
  obtain ⟨-, ⟨e2, l0, l1, -⟩, e3⟩ := tap_r hC ⟨t1, t2⟩
  refine g_hasPlace hC ⟨t1, t2⟩ hi (fun z => ⟨fun _ => h0 (fun b => z b.2), fun z2 => absurd rfl z2⟩) (fun i1 i2 => ⟨fun z => absurd z one_ne, fun _ => ⟨ir01.2, ⟨t1, t2⟩, ⟨i1, by omega⟩, ?_⟩⟩)
  rw [e3 i i1 (by omega)]
  exact h1 t1 t2 i1 i2
theorem o_shift {H : hf} {N I X : ct} {K : SK} {d : Nat} {c : ct} {Q : ct → Int → Prop} (hC : CSR H c N I X) {t i u j n : Int} (ht : ir t) (hi : ir i) (hu : ir u) (hj : ir j) (hn : ir n) (h0 : ¬ ((0 ≤ t ∧ t < 6) ∧ 0 ≤ u ∧ u < 6) → Q c (-1)) (h1 : (0 ≤ t ∧ t < 6) → (0 ≤ u ∧ u < 6) → (X 3 t = -1 ∨ X 3 u = -1) → Q c (-11)) (h2 : (0 ≤ t ∧ t < 6) → (0 ≤ u ∧ u < 6) → X 3 t ≠ -1 → X 3 u ≠ -1 → X 3 t ≠ X 3 u → Q c (-12))
    (h3 : (0 ≤ t ∧ t < 6) → (0 ≤ u ∧ u < 6) → X 3 t ≠ -1 → X 3 t = X 3 u → ¬ ((0 ≤ i ∧ 0 ≤ n ∧ i ≤ X 4 t - n) ∧ 0 ≤ j ∧ 0 ≤ n ∧ j ≤ X 4 u - n) → Q c (-13))
    (h4 : ∀ c', (0 ≤ t ∧ t < 6) → (0 ≤ u ∧ u < 6) → X 3 t ≠ -1 → X 3 t = X 3 u → (0 ≤ i ∧ 0 ≤ n ∧ i ≤ X 4 t - n) → (0 ≤ j ∧ j ≤ X 4 u - n) → loK c c' → CSR H c' N I (tpX X u (X 3 u) (X 4 u) (fun k => if j ≤ k ∧ k < j + n then X (10 + t) (i + (k - j)) else X (10 + u) k)) → Q c' n) : CI K (d + 2) mX8_shift [(2, 0), (0, t), (0, i), (0, u), (0, j), (0, n)] c Q := by
  refine e_X8_shift t i u j n (s_X8_shift_0 t i u j n (g_isTape t ht (fun z => ⟨fun _ => h0 (fun b => z b.1), fun z2 => absurd rfl z2⟩) (fun t1 t2 => ⟨fun z => absurd z one_ne, fun _ => ⟨ir01.2, ?_⟩⟩)))
  refine g_isTape u hu (fun z => ⟨fun _ => h0 (fun b => z b.2), fun z2 => absurd rfl z2⟩) (fun u1 u2 => ⟨fun z => absurd z one_ne, fun _ => ⟨ir01.2, ⟨t1, t2⟩, ⟨u1, u2⟩, ?_⟩⟩)
  obtain ⟨⟨e, s0, s4⟩, ⟨e2, l0, l1, -⟩, e3⟩ := tap_r hC ⟨t1, t2⟩
  obtain ⟨⟨f, r0, r4⟩, ⟨f2, k0, k1, k2⟩, f3⟩ := tap_r hC ⟨u1, u2⟩
  have T : 0 ≤ t ∧ t < 6 := ⟨t1, t2⟩
  have U : 0 ≤ u ∧ u < 6 := ⟨u1, u2⟩
  rw [e, f]
  refine ⟨fun q => h1 T U (Or.inl q), fun q => ⟨⟨by omega, by omega⟩, fun q2 => h1 T U (Or.inr q2), fun q2 => ⟨⟨by omega, by omega⟩, fun q3 => ?_, fun q3 => ⟨⟨⟨by omega, by omega⟩, ⟨by omega, by omega⟩⟩, h2 T U q q2 q3⟩⟩⟩⟩
  refine g_hasPlaces hC T hi hn (fun z => ⟨fun _ => h3 T U q q3 (fun b => z b.1), fun z2 => absurd rfl z2⟩) (fun i1 i2 i3 => ⟨fun z => absurd z one_ne, fun _ => ⟨ir01.2, ?_⟩⟩)
  refine g_hasPlaces hC U hj hn (fun z => ⟨fun _ => h3 T U q q3 (fun b => z b.2), fun z2 => absurd rfl z2⟩) (fun j1 j2 j3 => ⟨fun z => absurd z one_ne, fun _ => ⟨ir01.2, ⟨⟨i1, j1, i2⟩, by omega, by omega⟩, fun c18 e18 => ?_⟩⟩)
  refine h4 c18 T U q q3 ⟨i1, i2, i3⟩ ⟨j1, j3⟩ (fun k a b => by subst e18; exact upRow_ne (by omega)) (CSR_tape hC U (fun k a b j => by subst e18; exact upRow_ne b) ?_ ?_ (fun k k3 k4 => ?_))
  · subst e18; rw [upRow_ne (by omega)]; exact ⟨f, r0, r4⟩
  · subst e18; rw [upRow_ne (by omega)]; exact ⟨f2, k0, k1, k2⟩
  · subst e18
    rw [upRow_self]
    unfold cpyI
    split
    · exact e3 _ (by omega) (by omega)
    · exact f3 k k3 k4
def jdR (N X : ct) (t i : Int) : Nat → Int → Int
  | 0, _ => -5
  | n + 1, g => if 0 ≤ i + g ∧ i + g < X 4 t then (if X (10 + t) (i + g) = N 3 g then jdR N X t i n (g + 1) else g) else 100 + g
theorem o_judge {H : hf} {N I X : ct} {K : SK} {d : Nat} {c : ct} {Q : ct → Int → Prop} (hC : CSR H c N I X) (hIl : ∀ t, 0 ≤ t → t < 6 → ∀ i, 0 ≤ i → i < 60 → il (X (10 + t) i)) {t i : Int} (ht : ir t) (hi : ir i) (h0 : ¬ (0 ≤ t ∧ t < 6) → Q c (-1)) (h1 : 0 ≤ t → t < 6 → ¬ (X 3 t = 0 ∨ X 3 t = -1) → Q c (-12)) (h2 : 0 ≤ t → t < 6 → (X 3 t = 0 ∨ X 3 t = -1) → Q c (jdR N X t i (N 0 10).toNat 0)) : CI K (d + 2) mX8_judge [(2, 0), (0, t), (0, i)] c Q := by
  have hn := hC.n
  refine e_X8_judge t i (s_X8_judge_0 t i (g_isTape t ht (fun z => ⟨fun _ => h0 z, fun z2 => absurd rfl z2⟩) (fun t1 t2 => ⟨fun z => absurd z one_ne, fun _ => ⟨ir01.2, ⟨t1, t2⟩, ?_⟩⟩)))
  obtain ⟨⟨e, s0, s4⟩, ⟨e2, l0, l1, -⟩, e3⟩ := tap_r hC ⟨t1, t2⟩
  have loop : ∀ (n : Nat) (g : Int), g = N 0 10 - n → 0 ≤ g → (g = 0 ∨ (0 ≤ i + g - 1 ∧ i + g - 1 < 60)) → Q c (jdR N X t i n g) → WI K (d + 2) mX8_judge 37 [(2, 0), (9, 0), (0, i), (2, 96 + 2 * t), (0, g)] [] c Q := by
    intro n
    induction n with
    | zero =>
      intro g hg g0 _ hq
      refine s_X8_judge_37 i _ (tap_is ⟨t1, t2⟩) g ?_
      rw [hn.1]
      exact ⟨⟨⟨by omega, by omega⟩, ⟨by omega, by omega⟩⟩, fun _ => hq, fun z => absurd (by omega) z⟩
    | succ n ih =>
      intro g hg g0 hgi hq
      have r3 := (RT_p hC.now (p := g) ⟨g0, by omega⟩).2.2.1
      have e27 : c 27 g = N 3 g := (hC.now.2.2.2.2.1 g g0 (by omega)).1.2.2.1
      rw [jdR] at hq
      refine s_X8_judge_37 i _ (tap_is ⟨t1, t2⟩) g ?_
      rw [hn.1]
      refine ⟨⟨⟨by omega, by omega⟩, ⟨by omega, by omega⟩⟩, fun z => absurd z (by omega), fun _ => ?_⟩
      refine g_hasPlace hC ⟨t1, t2⟩ ?_ (fun z => ⟨fun _ => ?_, fun z2 => absurd rfl z2⟩) (fun i1 i2 => ⟨fun z => absurd z one_ne, fun _ => ⟨ir01.2, ⟨i1, by omega⟩, ⟨g0, by omega⟩, ?_⟩⟩)
      · rcases hgi with q | q
        · rw [q, Int.add_zero]; exact hi
        · exact ⟨by omega, by omega⟩
      · rw [if_neg z] at hq; exact hq
      · rw [if_pos ⟨i1, i2⟩] at hq
        have hl := hIl t t1 t2 (i + g) i1 (by omega)
        rw [e27, e3 _ i1 (by omega)]
        refine ⟨⟨by omega, by omega⟩, fun q => ih (g + 1) (by omega) (by omega) (Or.inr (by omega)) ?_, fun q => ⟨⟨hl, by omega, by omega⟩, fun z9 e9 => ⟨fun z => ?_, fun z => ⟨?_, ?_⟩⟩⟩⟩
        · rw [if_pos q] at hq; exact hq
        · exfalso; rw [e9] at z; split at z <;> omega
        · rw [e9]; split <;> exact ⟨by decide, by decide⟩
        · rw [if_neg q] at hq; exact hq
  rw [e]
  refine ⟨fun q => loop (N 0 10).toNat 0 (by omega) (by decide) (Or.inl rfl) (h2 t1 t2 (Or.inl q)), fun q => ⟨⟨by omega, by omega⟩, fun q2 => loop (N 0 10).toNat 0 (by omega) (by decide) (Or.inl rfl) (h2 t1 t2 (Or.inr q2)), fun q2 => ⟨⟨by omega, by omega⟩, h1 t1 t2 (by omega)⟩⟩⟩
