/-! CONTRACTS: all that stands, told abstractly -/
def INV (G : ct) : Prop := (0 ≤ G 0 12 ∧ G 0 12 ≤ 9999) ∧ (∀ i, 0 ≤ i → i < G 0 20 → (0 ≤ G 21 i ∧ G 21 i < G 0 10) ∧ (G 22 i = 0 ∨ G 22 i = 1) ∧ 0 ≤ G 23 i ∧ G 23 i ≤ 20) ∧
  (∀ i, 0 ≤ i → i < G 0 24 → (0 ≤ G 25 i ∧ G 25 i ≤ 3) ∧ ((G 25 i = 1 ∨ G 25 i = 2) → 0 ≤ G 26 i ∧ G 26 i < G 0 10) ∧ (G 25 i = 3 → 0 ≤ G 26 i ∧ G 26 i < 6)) ∧
  ∀ i, 0 ≤ i → i < G 0 28 → (0 ≤ G 29 i ∧ G 29 i < G 0 10) ∧ 0 ≤ G 30 i ∧ G 30 i < 6
def MISC (c X : ct) : Prop := (c 0 2 = X 0 0 ∧ (X 0 0 = 0 ∨ X 0 0 = 1)) ∧ (c 0 5 = X 0 1 ∧ 0 ≤ X 0 1 ∧ X 0 1 ≤ 100) ∧ (c 0 7 = X 0 2 ∧ 0 ≤ X 0 2 ∧ X 0 2 ≤ 6) ∧ (c 4 1 = X 0 3 ∧ 0 ≤ X 0 3 ∧ X 0 3 ≤ 100) ∧
  (∀ i, 0 ≤ i → i < X 0 1 → c 1 i = X 1 i ∧ 0 ≤ X 1 i ∧ X 1 i ≤ 127) ∧ (∀ i, 0 ≤ i → i < 20 → i < X 0 3 → c 5 i = X 2 i) ∧
  ∀ t, 0 ≤ t → t < 6 → (c (96 + 2 * t) 1 = X 3 t ∧ -1 ≤ X 3 t ∧ X 3 t ≤ 4) ∧ (c (96 + 2 * t) 2 = X 4 t ∧ 0 ≤ X 4 t ∧ X 4 t ≤ 60 ∧ (X 3 t = -1 → X 4 t = 0)) ∧ ∀ i, 0 ≤ i → i < 60 → c (96 + 2 * t + 1) i = X (10 + t) i
def CSR (H : hf) (c N I X : ct) : Prop := EV H c 11 N ∧ EV H c 35 I ∧ (INV N ∧ INV I) ∧ (∀ i, -1 ≤ i → i < X 0 2 → HR H c i) ∧ (N 0 13 < X 0 2 ∧ I 0 13 < X 0 2) ∧ MISC c X
theorem EV_congr {H : hf} {c c' G : ct} {e : Int} (h : EV H c e G) (hc : ∀ k, e ≤ k → k ≤ e + 22 → ∀ j, c' k j = c k j) (hh : ∀ k, hou (G 0 13) ≤ k → k ≤ hou (G 0 13) + 3 → ∀ j, c' k j = c k j) : EV H c' e G := by
  obtain ⟨h1, h2, h3, h4, h5⟩ := h
  exact ⟨RT_tab h1 (fun k a b j => hc k (by omega) (by omega) j) hh, ZB_congr h2 (fun k a b j => hc k (by omega) (by omega) j), RW_congr h3 (fun k a b j => hc k (by omega) (by omega) j), RW_congr h4 (fun k a b j => hc k (by omega) (by omega) j), RW_congr h5 (fun k a b j => hc k (by omega) (by omega) j)⟩
theorem MISC_congr {c c' X : ct} (h : MISC c X) (h0 : ∀ k, (k ≤ 5 ∨ 96 ≤ k) → k ≤ 107 → ∀ j, c' k j = c k j) : MISC c' X := by
  obtain ⟨h1, h2, h3, h4, h5, h6, h7⟩ := h
  rw [← h0 0 (by omega) (by omega)] at h1 h2 h3
  rw [← h0 4 (by omega) (by omega)] at h4
  refine ⟨h1, h2, h3, h4, fun i a b => by rw [h0 1 (by omega) (by omega)]; exact h5 i a b, fun i a b d => by rw [h0 5 (by omega) (by omega)]; exact h6 i a b d, fun t a b => ?_⟩
  rw [h0 (96 + 2 * t) (by omega) (by omega), h0 (96 + 2 * t) (by omega) (by omega)]
  obtain ⟨k1, k2, k3⟩ := h7 t a b
  exact ⟨k1, k2, fun i i1 i2 => by rw [h0 _ (by omega) (by omega)]; exact k3 i i1 i2⟩
theorem EV_hou {H : hf} {c G : ct} {e : Int} (h : EV H c e G) : isHou (hou (G 0 13)) := hou_is ⟨h.1.2.2.1.2.2.2.2.1, h.1.2.2.1.2.2.2.2.2⟩
theorem hou_in {i k : Int} (h : isHou (hou i)) (h1 : hou i ≤ k) (h2 : k ≤ hou i + 3) : (7 ≤ k ∧ k ≤ 10) ∨ (72 ≤ k ∧ k ≤ 95) := by
  unfold isHou at h; omega
/-- what lies at the trial table and the placings bears on nothing -/
theorem CSR_tr {H : hf} {c c' N I X : ct} (h : CSR H c N I X) (ho : ∀ k, (k < 59 ∨ 71 < k) → ∀ j, c' k j = c k j) : CSR H c' N I X := by
  obtain ⟨h1, h2, h3, h4, h5, h6⟩ := h
  refine ⟨EV_congr h1 (fun k a b j => ho k (by omega) j) (fun k a b j => ho k (by have := hou_in (EV_hou h1) a b; omega) j), EV_congr h2 (fun k a b j => ho k (by omega) j) (fun k a b j => ho k (by have := hou_in (EV_hou h2) a b; omega) j), h3, fun i a b => ?_, h5, MISC_congr h6 (fun k a b j => ho k (by omega) j)⟩
  exact HR_congr (h4 i a b) (fun k g1 g2 j => ho k (by have := hou_in (hou_is (i := i) ⟨a, by have := h6.2.2.1; omega⟩) g1 g2; omega) j)
/-- what changes now alone -/
theorem CSR_now {H : hf} {c c' N N' I X : ct} (h : CSR H c N I X) (ho : ∀ k, (k < 11 ∨ 34 < k) → ∀ j, c' k j = c k j) (hE : EV H c' 11 N') (hI : INV N') (h13 : N' 0 13 < X 0 2) : CSR H c' N' I X := by
  obtain ⟨h1, h2, h3, h4, h5, h6⟩ := h
  refine ⟨hE, EV_congr h2 (fun k a b j => ho k (by omega) j) (fun k a b j => ho k (by have := hou_in (EV_hou h2) a b; omega) j), ⟨hI, h3.2⟩, fun i a b => ?_, ⟨h13, h5.2⟩, MISC_congr h6 (fun k a b j => ho k (by omega) j)⟩
  exact HR_congr (h4 i a b) (fun k g1 g2 j => ho k (by have := hou_in (hou_is (i := i) ⟨a, by have := h6.2.2.1; omega⟩) g1 g2; omega) j)
theorem RW_G {c G G' : ct} {t b : Int} {nt : Nat} (h : RW c t nt G b) (h0 : G' 0 b = G 0 b) (h1 : ∀ i, 0 ≤ i → i < G 0 b → G' (b + 1) i = G (b + 1) i ∧ G' (b + 2) i = G (b + 2) i ∧ G' (b + 3) i = G (b + 3) i) : RW c t nt G' b := by
  obtain ⟨a1, a2, a3, a4⟩ := h
  refine ⟨a1, by rw [h0]; exact a2, by rw [h0]; exact a3, fun i g1 g2 => ?_⟩
  rw [h0] at g2
  rw [(h1 i g1 g2).1, (h1 i g1 g2).2.1, (h1 i g1 g2).2.2]
  exact a4 i g1 g2
/-- the rows of three stand as they stood -/
def sameR (G G' : ct) : Prop := ∀ k, 20 ≤ k → ∀ j, G' k j = G k j
def same0 (G G' : ct) : Prop := ∀ j, 20 ≤ j → G' 0 j = G 0 j
theorem EV_tab {H : hf} {c c' G G' : ct} {e : Int} (h : EV H c e G) (ho : ∀ k, k < e + 13 → e ≤ k → ∀ j, c' k j = c k j) (hs : sameR G G') (h0 : same0 G G') (hR : RT H c' (e + 13) G') (hZ : ZB c' (e + 13)) : EV H c' e G' := by
  obtain ⟨-, -, h3, h4, h5⟩ := h
  exact ⟨hR, hZ, RW_G (RW_congr h3 (fun k a b j => ho k (by omega) (by omega) j)) (h0 _ (by decide)) (fun i _ _ => ⟨hs _ (by decide) i, hs _ (by decide) i, hs _ (by decide) i⟩),
    RW_G (RW_congr h4 (fun k a b j => ho k (by omega) (by omega) j)) (h0 _ (by decide)) (fun i _ _ => ⟨hs _ (by decide) i, hs _ (by decide) i, hs _ (by decide) i⟩),
    RW_G (RW_congr h5 (fun k a b j => ho k (by omega) (by omega) j)) (h0 _ (by decide)) (fun i _ _ => ⟨hs _ (by decide) i, hs _ (by decide) i, hs _ (by decide) i⟩)⟩
theorem INV_tab {G G' : ct} (h : INV G) (hs : sameR G G') (h0 : same0 G G') (h10 : G 0 10 ≤ G' 0 10) (h12 : 0 ≤ G' 0 12 ∧ G' 0 12 ≤ 9999) : INV G' := by
  obtain ⟨-, h2, h3, h4⟩ := h
  refine ⟨h12, fun i a b => ?_, fun i a b => ?_, fun i a b => ?_⟩
  · rw [h0 20 (by decide)] at b
    rw [hs 21 (by decide), hs 22 (by decide), hs 23 (by decide)]
    obtain ⟨k1, k2, k3⟩ := h2 i a b
    exact ⟨⟨k1.1, by omega⟩, k2, k3⟩
  · rw [h0 24 (by decide)] at b
    rw [hs 25 (by decide), hs 26 (by decide)]
    obtain ⟨k1, k2, k3⟩ := h3 i a b
    exact ⟨k1, fun q => by have := k2 q; omega, k3⟩
  · rw [h0 28 (by decide)] at b
    rw [hs 29 (by decide), hs 30 (by decide)]
    obtain ⟨k1, k2⟩ := h4 i a b
    exact ⟨⟨k1.1, by omega⟩, k2⟩
theorem t24 : isTab 24 := Or.inl rfl
theorem t59 : isTab 59 := Or.inr (Or.inr rfl)
theorem CSR.now {H : hf} {c N I X : ct} (h : CSR H c N I X) : RT H c 24 N := h.1.1
theorem CSR.n {H : hf} {c N I X : ct} (h : CSR H c N I X) : c 24 10 = N 0 10 ∧ 0 ≤ N 0 10 ∧ N 0 10 ≤ 6 := by
  have a := h.1.1.2.2.1.1
  have b := h.1.1.1.1.1
  exact ⟨a, by rw [show N 0 10 = c 24 10 from a.symm]; exact b.1, by rw [show N 0 10 = c 24 10 from a.symm]; exact b.2⟩
/-- the table of now changes alone: what is told of it and of nothing else -/
theorem CSR_tab {H : hf} {c c' N N' I X : ct} (h : CSR H c N I X) (ho : offT c c' 24) (hs : sameR N N') (h0 : same0 N N') (hR : RT H c' 24 N') (hZ : ZB c' 24) (h10 : N 0 10 ≤ N' 0 10) (h12 : 0 ≤ N' 0 12 ∧ N' 0 12 ≤ 9999) (h13 : N' 0 13 < X 0 2) : CSR H c' N' I X :=
  CSR_now h (fun k a j => ho k (by omega) j) (EV_tab h.1 (fun k a b j => ho k (by omega) j) hs h0 hR hZ) (INV_tab h.2.2.1.1 hs h0 h10 h12) h13
def loK (c c' : ct) : Prop := ∀ k, (108 ≤ k ∨ k = 70) → ∀ j, c' k j = c k j
theorem loK.rf {c : ct} : loK c c := fun _ _ _ => rfl
theorem loK.trans {c c1 c2 : ct} (h1 : loK c c1) (h2 : loK c1 c2) : loK c c2 := fun k a j => (h2 k a j).trans (h1 k a j)
theorem lo24 {c c' : ct} (h : offT c c' 24) : loK c c' := fun k a j => h k (by omega) j
theorem lo59 {c c' : ct} (h : offT c c' 59) : loK c c' := fun k a j => h k (by omega) j
theorem tr59 {c c' : ct} (h : offT c c' 59) : ∀ k, (k < 59 ∨ 71 < k) → ∀ j, c' k j = c k j := fun k a j => h k (by omega) j
theorem k_X8_isDigit {K : SK} {d : Nat} {c : ct} {Q : ct → Int → Prop} (a0 : Int) (hr : ir a0) (h : Q c (if 0 ≤ a0 ∧ a0 ≤ 9 then 1 else 0)) : CI K (d + 1) mX8_isDigit [(0, a0)] c Q := by
  refine e_X8_isDigit a0 (s_X8_isDigit_0 _ ⟨hr, fun z => ?_, fun z => ⟨hr, fun z2 => ?_, fun z2 => ?_⟩⟩)
  · rw [if_neg (by omega)] at h; exact h
  · rw [if_neg (by omega)] at h; exact h
  · rw [if_pos (by omega)] at h; exact h
theorem k_X8_isTape {K : SK} {d : Nat} {c : ct} {Q : ct → Int → Prop} (a0 : Int) (hr : ir a0) (h : Q c (if 0 ≤ a0 ∧ a0 < 6 then 1 else 0)) : CI K (d + 1) mX8_isTape [(0, a0)] c Q := by
  refine e_X8_isTape a0 (s_X8_isTape_0 _ ⟨hr, fun z => ?_, fun z => ⟨hr, fun z2 => ?_, fun z2 => ?_⟩⟩)
  · rw [if_neg (by omega)] at h; exact h
  · rw [if_neg (by omega)] at h; exact h
  · rw [if_pos (by omega)] at h; exact h
/-- whether p is one of the guests, in one step -/
theorem g_isGuest {H : hf} {N I X : ct} {K : SK} {d : Nat} {c : ct} {Q : ct → Int → Prop} (hC : CSR H c N I X) (p : Int) (hr : ir p) (h0 : ¬ (0 ≤ p ∧ p < N 0 10) → Q c 0) (h1 : 0 ≤ p → p < N 0 10 → Q c 1) : CI K (d + 1) mX8_isGuest [(2, 0), (0, p)] c Q := by
  have hn := hC.n
  refine k_X8_isGuest p hr ⟨by omega, by omega⟩ ?_
  by_cases z : 0 ≤ p ∧ p < c 24 10
  · rw [if_pos z]; exact h1 z.1 (by omega)
  · rw [if_neg z]; exact h0 (by omega)
theorem g_isSeat {K : SK} {d : Nat} {c : ct} {Q : ct → Int → Prop} (p : Int) (hr : ir p) (h0 : ¬ (0 ≤ p ∧ p < 6) → Q c 0) (h1 : 0 ≤ p → p < 6 → Q c 1) : CI K (d + 1) mX8_isSeat [(0, p)] c Q := by
  refine k_X8_isSeat p hr ?_
  by_cases z : 0 ≤ p ∧ p < 6
  · rw [if_pos z]; exact h1 z.1 z.2
  · rw [if_neg z]; exact h0 z
theorem g_isTape {K : SK} {d : Nat} {c : ct} {Q : ct → Int → Prop} (p : Int) (hr : ir p) (h0 : ¬ (0 ≤ p ∧ p < 6) → Q c 0) (h1 : 0 ≤ p → p < 6 → Q c 1) : CI K (d + 1) mX8_isTape [(0, p)] c Q := by
  refine k_X8_isTape p hr ?_
  by_cases z : 0 ≤ p ∧ p < 6
  · rw [if_pos z]; exact h1 z.1 z.2
  · rw [if_neg z]; exact h0 z
theorem g_isDigit {K : SK} {d : Nat} {c : ct} {Q : ct → Int → Prop} (p : Int) (hr : ir p) (h0 : ¬ (0 ≤ p ∧ p ≤ 9) → Q c 0) (h1 : 0 ≤ p → p ≤ 9 → Q c 1) : CI K (d + 1) mX8_isDigit [(0, p)] c Q := by
  refine k_X8_isDigit p hr ?_
  by_cases z : 0 ≤ p ∧ p ≤ 9
  · rw [if_pos z]; exact h1 z.1 z.2
  · rw [if_neg z]; exact h0 z
theorem ir01 : ir 0 ∧ ir 1 := ⟨⟨by decide, by decide⟩, ⟨by decide, by decide⟩⟩
theorem one_ne : ¬ ((1 : Int) = 0) := by decide
