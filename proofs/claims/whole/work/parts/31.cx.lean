/-! CONTRACTS: the public calls, first lot -/
theorem CI_eqv {K : SK} {d : Nat} {y : mth} {vs vs' : List av} {c : ct} {Q : ct → Int → Prop} (h : ∀ (ad ros : Nat → Nat) (fm : Value), vs.map (cv ad ros fm) = vs'.map (cv ad ros fm)) (k : CI K d y vs' c Q) : CI K d y vs c Q := by
  intro D cA ad ros fm A
  have := k D cA ad ros fm A
  unfold cPre at this ⊢
  rw [h]
  exact this
theorem w32 {x : Int} : Int32.ofInt ((Int32.ofInt x).toInt) = Int32.ofInt x := Int32.ofInt_toInt _
theorem cv_w {x : Int} (ad ros : Nat → Nat) (fm : Value) : cv ad ros fm (0, x) = cv ad ros fm (0, (Int32.ofInt x).toInt) := by
  show Value.int (Int32.ofInt x) = Value.int (Int32.ofInt ((Int32.ofInt x).toInt))
  rw [w32]
def ir' (x : Int) : Prop := -2147483700 ≤ x ∧ x ≤ 2147483647
theorem ir_ir' {x : Int} (h : ir x) : ir' x := ⟨by have := h.1; omega, h.2⟩
theorem w10 {x : Int} (h : ir' x) {B : Int} (hB : B ≤ 1000) : (0 ≤ (Int32.ofInt x).toInt ∧ (Int32.ofInt x).toInt < B) ↔ (0 ≤ x ∧ x < B) := by
  by_cases z : -2147483648 ≤ x
  · rw [i_to ⟨z, h.2⟩]
  · have e : Int32.ofInt x = Int32.ofInt (x + 4294967296) := by
      rw [Int32.ofInt_add]
      have : Int32.ofInt 4294967296 = 0 := by decide
      rw [this, Int32.add_zero]
    rw [e, i_to ⟨by have := h.1; omega, by omega⟩]
    constructor
    · intro q; have := h.1; omega
    · intro q; omega
theorem g_isGuest' {H : hf} {N I X : ct} {K : SK} {d : Nat} {c : ct} {Q : ct → Int → Prop} (hC : CSR H c N I X) (p : Int) (hr : ir' p) (h0 : ¬ (0 ≤ p ∧ p < N 0 10) → Q c 0) (h1 : 0 ≤ p → p < N 0 10 → Q c 1) : CI K (d + 1) mX8_isGuest [(2, 0), (0, p)] c Q := by
  have hn := hC.n
  have hw := w10 hr (B := N 0 10) (by omega)
  refine CI_eqv (vs' := [(2, 0), (0, (Int32.ofInt p).toInt)]) (fun ad ros fm => by simp only [List.map_cons, List.map_nil, ← cv_w]) ?_
  exact g_isGuest hC _ (ir_toInt _) (fun z => h0 (fun q => z (hw.mpr q))) (fun a b => h1 (hw.mp ⟨a, b⟩).1 (hw.mp ⟨a, b⟩).2)
theorem g_isSeat' {K : SK} {d : Nat} {c : ct} {Q : ct → Int → Prop} (p : Int) (hr : ir' p) (h0 : ¬ (0 ≤ p ∧ p < 6) → Q c 0) (h1 : 0 ≤ p → p < 6 → Q c 1) : CI K (d + 1) mX8_isSeat [(0, p)] c Q := by
  have hw := w10 hr (B := 6) (by omega)
  refine CI_eqv (vs' := [(0, (Int32.ofInt p).toInt)]) (fun ad ros fm => by simp only [List.map_cons, List.map_nil, ← cv_w]) ?_
  exact g_isSeat _ (ir_toInt _) (fun z => h0 (fun q => z (hw.mpr q))) (fun a b => h1 (hw.mp ⟨a, b⟩).1 (hw.mp ⟨a, b⟩).2)
/-- who is beside p, as bits -/
def nbG (G : ct) (p : Int) : Int := smR (fun o => if (G 6 o = 0 ∧ ¬ G 1 o = 4) ∧ (G 3 o = aft (G 3 p) ∨ G 3 o = ahd (G 3 p)) then pw o else 0) (G 0 10).toNat 0
theorem bit_sum {H : hf} {c G : ct} {t s : Int} (hR : RT H c t G) (hs : 0 ≤ s ∧ s < 6) : bit1 (nbA c t s) = smR (fun o => if (G 6 o = 0 ∧ ¬ G 1 o = 4) ∧ G 3 o = s then pw o else 0) (G 0 10).toNat 0 := by
  obtain ⟨⟨hT, hW, hS, hB⟩, hTS, ⟨e10, e11, e12, e13, -, -⟩, hH, hE, -⟩ := hR
  have hn := hT.1
  by_cases z : 0 ≤ c (t + 8) s
  · obtain ⟨w1, w2⟩ := hTS.2 s hs.1 hs.2 z
    have ew := (hE (c (t + 8) s) z (by omega)).1
    rw [sm_pick (w := c (t + 8) s) _ 0 (by omega) (by omega) (fun j g1 g2 g3 => ?_)]
    · have e3 : G 3 (c (t + 8) s) = s := by rw [← ew.2.2.1]; exact w2
      simp only [e3, and_true]
      have hnb : nbA c t s = if G 6 (c (t + 8) s) = 0 then (if G 1 (c (t + 8) s) = 4 then -1 else c (t + 8) s) else -1 := by
        unfold nbA
        rw [if_neg (show ¬ c (t + 8) s < 0 by omega), ew.2.2.2.2.2, ew.1]
      rw [hnb]
      unfold bit1
      by_cases a : G 6 (c (t + 8) s) = 0
      · by_cases b : G 1 (c (t + 8) s) = 4
        · rw [if_pos a, if_pos b, if_pos (show (-1 : Int) < 0 by decide), if_neg (fun q => q.2 b)]
        · rw [if_pos a, if_neg b, if_neg (show ¬ c (t + 8) s < 0 by omega), if_pos ⟨a, b⟩]
      · rw [if_neg a, if_pos (show (-1 : Int) < 0 by decide), if_neg (fun q => a q.1)]
    · refine if_neg (fun q => g3 ?_)
      have ej := (hE j g1 (by omega)).1.2.2.1
      have := hTS.1 j g1 (by omega)
      rw [ej, q.2] at this
      exact this.symm
  · rw [sm_zero _ 0 (fun j g1 g2 => if_neg (fun q => ?_))]
    · have hnb : nbA c t s = -1 := by unfold nbA; exact if_pos (by omega)
      rw [hnb]; rfl
    · have ej := (hE j g1 (by omega)).1.2.2.1
      have := hTS.1 j g1 (by omega)
      rw [ej, q.2] at this
      omega
theorem or_pw {a b : Int} (ha : -1 ≤ a ∧ a < 6) (hb : -1 ≤ b ∧ b < 6) (hne : a = b → a = -1) : bOr (bit1 a) (bit1 b) = bit1 a + bit1 b := by
  have h1 : a = -1 ∨ a = 0 ∨ a = 1 ∨ a = 2 ∨ a = 3 ∨ a = 4 ∨ a = 5 := by omega
  have h2 : b = -1 ∨ b = 0 ∨ b = 1 ∨ b = 2 ∨ b = 3 ∨ b = 4 ∨ b = 5 := by omega
  rcases h1 with rfl | rfl | rfl | rfl | rfl | rfl | rfl <;> rcases h2 with rfl | rfl | rfl | rfl | rfl | rfl | rfl <;> first | decide | (exact absurd (hne rfl) (by decide))
theorem g_neighbours {H : hf} {G : ct} {K : SK} {d : Nat} {c : ct} {Q : ct → Int → Prop} {t g : Int} (ht : isTab t) (hR : RT H c t G) (hg : 0 ≤ g ∧ g < G 0 10) (h : Q c (nbG G g)) : CI K (d + 2) mX6_neighbours [(2, t), (0, g)] c Q := by
  have hT := hR.1.1
  have hTS := hR.2.1
  have e10 := hR.2.2.1.1
  have hn := hT.1
  have e3 := (hR.2.2.2.2.1 g hg.1 hg.2).1.2.2.1
  have h3 := (hT.2.2.2.2.1 g hg.1 (by omega)).2.2.1
  refine k_X6_neighbours ht hT ⟨hg.1, by omega⟩ ?_
  have ha := aft_r h3
  have hb := ahd_r h3
  have hne := (aft_ahd h3).1
  rw [or_pw (nbA_r hT ha) (nbA_r hT hb), bit_sum hR ha, bit_sum hR hb, ← sm_add]
  · have e : smR (fun o => (if (G 6 o = 0 ∧ ¬ G 1 o = 4) ∧ G 3 o = aft (c (t + 3) g) then pw o else 0) + (if (G 6 o = 0 ∧ ¬ G 1 o = 4) ∧ G 3 o = ahd (c (t + 3) g) then pw o else 0)) (G 0 10).toNat 0 = nbG G g := by
      unfold nbG
      rw [e3] at hne ⊢
      refine smR_congr _ _ (fun o _ _ => ?_)
      by_cases a : G 6 o = 0 ∧ ¬ G 1 o = 4
      · by_cases b : G 3 o = aft (G 3 g)
        · have b2 : ¬ G 3 o = ahd (G 3 g) := by rw [b]; exact hne
          simp only [a, b, b2, hne, true_or, and_true, and_false, not_false_eq_true, if_true, if_false, and_self, Int.add_zero]
        · by_cases b2 : G 3 o = ahd (G 3 g)
          · have := hne.symm
            simp only [a, b2, this, or_true, and_true, and_false, not_false_eq_true, if_true, if_false, and_self, Int.zero_add]
          · simp only [b, b2, or_self, and_false, if_false, Int.add_zero]
      · simp only [a, false_and, if_false, Int.add_zero]
    rw [e]; exact h
  · intro q
    by_cases z : nbA c t (aft (c (t + 3) g)) < 0
    · have := (nbA_r hT ha).1; omega
    · exfalso
      have key : ∀ s, 0 ≤ s ∧ s < 6 → ¬ nbA c t s < 0 → c (t + 3) (nbA c t s) = s := by
        intro s hs hz
        unfold nbA at hz ⊢
        by_cases w : c (t + 8) s < 0
        · rw [if_pos w] at hz; exact absurd (by decide) hz
        · rw [if_neg w] at hz ⊢
          by_cases w6 : c (t + 6) (c (t + 8) s) = 0
          · rw [if_pos w6] at hz ⊢
            by_cases w1 : c (t + 1) (c (t + 8) s) = 4
            · rw [if_pos w1] at hz; exact absurd (by decide) hz
            · rw [if_neg w1]; exact (hTS.2 s hs.1 hs.2 (by omega)).2
          · rw [if_neg w6] at hz; exact absurd (by decide) hz
      have k1 := key _ ha z
      have k2 := key _ hb (by rw [← q]; exact z)
      rw [← q, k1] at k2
      exact hne k2
def isG (N : ct) (p : Int) : Prop := 0 ≤ p ∧ p < N 0 10
def r_of (H : hf) (N : ct) (p w : Int) : Int := if w = 0 then N 1 p else if w = 1 then N 2 p else if w = 2 then N 3 p else if w = 3 then N 5 p else if w = 4 then N 4 p else if w = 5 then N 6 p else if w = 6 then nbG N p else if w = 7 then fdG H N (N 0 12) p else -10001
theorem e01 {x : Int} (h : x = 0 ∨ x = 1) : (if x = 0 then (0 : Int) else 1) = x := by rcases h with rfl | rfl <;> rfl
theorem ir_01 {x : Int} (h : x = 0 ∨ x = 1) : ir x := by rcases h with rfl | rfl <;> exact ⟨by decide, by decide⟩
theorem RT_p {H : hf} {c G : ct} {t p : Int} (hR : RT H c t G) (hp : 0 ≤ p ∧ p < G 0 10) : (0 ≤ G 1 p ∧ G 1 p < 7) ∧ (0 ≤ G 2 p ∧ G 2 p ≤ 9) ∧ (0 ≤ G 3 p ∧ G 3 p < 6) ∧ (0 ≤ G 4 p ∧ G 4 p ≤ G 0 12) ∧ (G 5 p = 0 ∨ G 5 p = 1) ∧ (G 6 p = 0 ∨ G 6 p = 1) ∧ ∀ i, 0 ≤ i → i < 4 → 0 ≤ G 7 (p * 4 + i) ∧ G 7 (p * 4 + i) ≤ 9 := by
  have hT := hR.1.1
  have hn := hT.1
  have e10 := hR.2.2.1.1
  obtain ⟨e, e7⟩ := hR.2.2.2.2.1 p hp.1 hp.2
  have a := hT.2.2.2.2.1 p hp.1 (by omega)
  have u := hR.2.2.2.2.2 p hp.1 (by omega)
  rw [e.1, e.2.1, e.2.2.1, e.2.2.2.1, e.2.2.2.2.1, e.2.2.2.2.2] at a
  rw [e.2.2.2.1, hR.2.2.1.2.2.1] at u
  exact ⟨a.1, a.2.1, a.2.2.1, ⟨a.2.2.2.1.1, u⟩, a.2.2.2.2.1, a.2.2.2.2.2.1, fun i i1 i2 => by rw [← e7 i i1 i2]; exact hT.2.2.2.2.2.1 _ (by omega) (by omega)⟩
theorem o_of {H : hf} {N I X : ct} {K : SK} {d : Nat} {c : ct} {Q : ct → Int → Prop} (hC : CSR H c N I X) {p w : Int} (hp : ir p) (hw : ir w) (h0 : ¬ isG N p → Q c (-10001)) (h1 : isG N p → Q c (r_of H N p w)) : CI K (d + 4) mX8_of [(2, 0), (0, p), (0, w)] c Q := by
  have hR := hC.now
  have hn := hC.n
  refine e_X8_of p w (s_X8_of_0 p w (g_isGuest hC p hp (fun z => ⟨fun _ => h0 z, fun z2 => absurd rfl z2⟩) (fun g1 g2 => ⟨fun z => absurd z one_ne, fun _ => ⟨ir01.2, hw, ?_⟩⟩)))
  have h1 := h1 ⟨g1, g2⟩
  have p6 : 0 ≤ p ∧ p < 6 := ⟨g1, by omega⟩
  have e := (hR.2.2.2.2.1 p g1 g2).1
  have rp := RT_p hR ⟨g1, g2⟩
  unfold r_of at h1
  refine ⟨fun z => ⟨p6, ?_⟩, fun z => ⟨p6, ?_⟩, fun z => ⟨p6, ?_⟩, fun z => ⟨p6, ?_⟩, fun z => ⟨p6, ?_⟩, fun z => ⟨p6, ?_⟩, fun z => ?_, fun z => ?_, fun z => ?_⟩
  · subst z; rw [show c 25 p = N 1 p from e.1]; exact h1
  · subst z; rw [show c 26 p = N 2 p from e.2.1]; exact h1
  · subst z; rw [show c 27 p = N 3 p from e.2.2.1]; exact h1
  · subst z; rw [show c 29 p = N 5 p from e.2.2.2.2.1]; exact k_X8_oneIf _ (ir_01 rp.2.2.2.2.1) (by rw [e01 rp.2.2.2.2.1]; exact h1)
  · subst z; rw [show c 28 p = N 4 p from e.2.2.2.1]; exact h1
  · subst z; rw [show c 30 p = N 6 p from e.2.2.2.2.2]; exact k_X8_oneIf _ (ir_01 rp.2.2.2.2.2.1) (by rw [e01 rp.2.2.2.2.2.1]; exact h1)
  · subst z; exact g_neighbours t24 hR ⟨g1, g2⟩ h1
  · subst z; exact g_fondOf t24 hR ⟨g1, g2⟩ h1
  · repeat rw [if_neg (by omega)] at h1
    exact h1
theorem o_likes {H : hf} {N I X : ct} {K : SK} {d : Nat} {c : ct} {Q : ct → Int → Prop} (hC : CSR H c N I X) {p q : Int} (hp : ir p) (hq : ir q) (h0 : ¬ (isG N p ∧ isG N q) → Q c (-10001)) (h1 : isG N p → p = q → Q c (-10002)) (h2 : isG N p → isG N q → p ≠ q → Q c (lkG H N (N 0 12) p q)) : CI K (d + 2) mX8_likes [(2, 0), (0, p), (0, q)] c Q := by
  have hR := hC.now
  have hn := hC.n
  refine e_X8_likes p q (s_X8_likes_0 p q (g_isGuest hC p hp (fun z => ⟨fun _ => h0 (fun b => z b.1), fun z2 => absurd rfl z2⟩) (fun g1 g2 => ⟨fun z => absurd z one_ne, fun _ => ⟨ir01.2, ?_⟩⟩)))
  refine g_isGuest hC q hq (fun z => ⟨fun _ => h0 (fun b => z b.2), fun z2 => absurd rfl z2⟩) (fun g3 g4 => ⟨fun z => absurd z one_ne, fun _ => ⟨ir01.2, fun z => h1 ⟨g1, g2⟩ z, fun z => ⟨⟨hp, hq⟩, ?_⟩⟩⟩)
  refine k_X6_liking t24 ⟨g1, by omega⟩ ⟨g3, by omega⟩ ?_
  have hb := hR.1.2.2.2 p q g1 (by omega) g3 (by omega)
  have e : lkA c 24 p q = lkG H N (N 0 12) p q := by
    unfold lkA lkG
    rw [hR.2.2.1.2.2.2.1, (hR.2.2.2.1.2 _).1]
    congr 1
    funext j
    simp only [fct, fcG, (hR.2.2.2.2.1 p g1 g2).1.1, (hR.2.2.2.2.1 p g1 g2).1.2.1, (hR.2.2.2.2.1 q g3 g4).1.1, hR.2.2.1.2.2.1]
  rw [hb, e]
  exact h2 ⟨g1, g2⟩ ⟨g3, g4⟩ z
