/-! CONTRACTS: best, peace: one placing is weighed at least -/
def fB (B : ct) : Prop := B 0 5 = 0 ∨ B 0 5 = 1
theorem wg_0 {B : ct} {A : Int → Int} {f l : Int} (h : fB B) : wgB B A f l 0 5 = 0 := by
  unfold wgB
  rcases h with h | h
  · split
    · rfl
    · exact h
  · rw [if_pos (Or.inl h)]; rfl
theorem sLo_inv {F : Int → ct → ct} {P : ct → Prop} (hF : ∀ s B, P B → P (F s B)) : ∀ (n : Nat) (s : Int) (B : ct), P B → P (sLo F n s B) := by
  intro n
  induction n with
  | zero => intro s B h; exact h
  | succ n ih => intro s B h; exact ih _ _ (hF s B h)
theorem sLo_hit {F : Int → ct → ct} (h1 : ∀ s B, fB B → fB (F s B)) (h0 : ∀ s B, B 0 5 = 0 → F s B 0 5 = 0) {w : Int} (hw : ∀ B, fB B → F w B 0 5 = 0) : ∀ (n : Nat) (s : Int) (B : ct), s ≤ w → w < s + n → fB B → sLo F n s B 0 5 = 0 := by
  intro n
  induction n with
  | zero => intro s B a b _; omega
  | succ n ih =>
    intro s B a b h
    rw [sLo_s]
    by_cases e : s = w
    · subst e
      exact sLo_inv (P := fun B => B 0 5 = 0) (fun s B q => h0 s B q) n _ _ (hw B h)
    · exact ih _ _ (by omega) (by omega) (h1 s B h)
theorem plR_fB {H : hf} {N : ct} {pe : Int} : ∀ (m : Nat) (g : Int) (A : Int → Int) (B : ct), fB B → fB (plR H N pe m g A B) := by
  intro m
  induction m with
  | zero => intro g A B h; exact Or.inl (wg_0 h)
  | succ m ih =>
    intro g A B h
    rw [plR]
    refine sLo_inv (P := fB) (fun s B' q => ?_) 6 0 B h
    split
    · exact ih _ _ _ q
    · exact q
theorem plR_keep {H : hf} {N : ct} {pe : Int} : ∀ (m : Nat) (g : Int) (A : Int → Int) (B : ct), B 0 5 = 0 → plR H N pe m g A B 0 5 = 0 := by
  intro m
  induction m with
  | zero => intro g A B h; exact wg_0 (Or.inl h)
  | succ m ih =>
    intro g A B h
    rw [plR]
    refine sLo_inv (P := fun B => B 0 5 = 0) (fun s B' q => ?_) 6 0 B h
    show (if stA A g s < 0 then plR H N pe m (g + 1) (updA A g s) B' else B') 0 5 = 0
    split
    · exact ih _ _ _ q
    · exact q
theorem free_ex {A : Int → Int} {g : Int} (hg : 0 ≤ g ∧ g < 6) : ∃ s, 0 ≤ s ∧ s < 6 ∧ stA A g s < 0 := by
  by_cases e : ∃ s, 0 ≤ s ∧ s < 6 ∧ stA A g s < 0
  · exact e
  · exfalso
    have key : ∀ i : Nat, i ≤ 5 → 0 ≤ stA A g i ∧ stA A g i < g ∧ A (stA A g i) = i := by
      intro i hi
      by_cases z : stA A g i < 0
      · exact absurd ⟨(i : Int), by omega, by omega, z⟩ e
      · have := stA_sit (A := A) (g := g) (s := i) hg.1 (by omega)
        exact ⟨by omega, this.1, this.2⟩
    obtain ⟨i, j, h1, h2, h3⟩ := pig 5 (fun i => (stA A g i).toNat) (fun i hi => by have := key i hi; show (stA A g i).toNat < 5; omega)
    have ki := key i (by omega)
    have kj := key j h2
    have h3' : (stA A g i).toNat = (stA A g j).toNat := h3
    have q : stA A g i = stA A g j := by omega
    have := ki.2.2
    rw [q, kj.2.2] at this
    omega
theorem plR_0 {H : hf} {N : ct} {pe : Int} : ∀ (m : Nat) (g : Int) (A : Int → Int) (B : ct), 0 ≤ g → g + m ≤ 6 → fB B → plR H N pe m g A B 0 5 = 0 := by
  intro m
  induction m with
  | zero => intro g A B _ _ h; exact wg_0 h
  | succ m ih =>
    intro g A B g0 g6 h
    rw [plR]
    obtain ⟨w, w0, w6, hw⟩ := free_ex (A := A) (g := g) ⟨g0, by omega⟩
    refine sLo_hit (fun s B' q => ?_) (fun s B' q => ?_) (w := w) (fun B' q => ?_) 6 0 B w0 (by omega) h
    · show fB (if stA A g s < 0 then plR H N pe m (g + 1) (updA A g s) B' else B')
      split
      · exact plR_fB _ _ _ _ q
      · exact q
    · show (if stA A g s < 0 then plR H N pe m (g + 1) (updA A g s) B' else B') 0 5 = 0
      split
      · exact plR_keep _ _ _ _ q
      · exact q
    · show (if stA A g w < 0 then plR H N pe m (g + 1) (updA A g w) B' else B') 0 5 = 0
      rw [if_pos hw]
      exact ih _ _ _ (by omega) (by omega) q
/-- the best placing; it tells nothing of what was there before -/
def beB (H : hf) (N : ct) (pe : Int) (B : ct) : ct := plR H N pe (N 0 10).toNat 0 (fun _ => 0) B
theorem o_best {H : hf} {N I X : ct} {K : SK} {d : Nat} {c : ct} {Q : ct → Int → Prop} (hC : CSR H c N I X) (h2 : ir (c 70 2)) (h3 : ir (c 70 3)) {w : Int} (hw : ir w) (h0 : ¬ (w = 0 ∨ isG N (w - 10)) → Q c (-10001)) (h1 : ∀ c', (w = 0 ∨ isG N (w - 10)) → (∀ k, 108 ≤ k → ∀ j, c' k j = c k j) → ir (c' 70 2) → ir (c' 70 3) → CSR H c' N I X → Q c' (if w = 0 then beB H N 0 (iniB c) 0 2 else beB H N 0 (iniB c) 1 (w - 10))) : CI K (d + 20) mX8_best [(2, 0), (0, w)] c Q := by
  have hn := hC.n
  have seg : (w = 0 ∨ isG N (w - 10)) → WI K (d + 20) mX8_best 21 [(2, 0), (0, w), (0, w - 10)] [] c Q := by
    intro hg
    refine s_X8_best_21 w _ ?_
    have ed : d + 19 = 2 * (N 0 10).toNat + (d + 13 - 2 * (N 0 10).toNat) + 6 := by omega
    rw [ed]
    refine k_find hC (Or.inl rfl) h2 h3 (fun c' lo hC' hB => ?_)
    have z5 : plR H N 0 (N 0 10).toNat 0 (fun _ => 0) (iniB c) 0 5 = 0 := plR_0 _ _ _ _ (by decide) (by omega) (Or.inr rfl)
    have h := h1 c' hg lo (by rw [hB.1.1]; exact hB.1.2) (by rw [hB.2.1.1]; exact hB.2.1.2) hC'
    refine ⟨fun z => ?_, fun z => ⟨hw, ?_⟩⟩
    · rw [if_pos z] at h; rw [hB.1.1]; exact h
    · rw [if_neg z] at h
      have g := hg.resolve_left z
      rw [hB.2.2.2.2 _ z5 g.1 g.2]
      exact ⟨⟨g.1, by have := g.2; omega⟩, h⟩
  refine e_X8_best w (s_X8_best_0 w ⟨fun z => seg (Or.inl z), fun z => ⟨hw, g_isGuest' hC (w - 10) ⟨by have := hw.1; omega, by have := hw.2; omega⟩ (fun q => ⟨fun _ => h0 (fun b => b.elim z q), fun q2 => absurd rfl q2⟩) (fun s1 s2 => ⟨fun q => absurd q one_ne, fun _ => ⟨ir01.2, seg (Or.inr ⟨s1, s2⟩)⟩⟩)⟩⟩)
theorem o_peace {H : hf} {N I X : ct} {K : SK} {d : Nat} {c : ct} {Q : ct → Int → Prop} (hC : CSR H c N I X) (h2 : ir (c 70 2)) (h3 : ir (c 70 3)) {w : Int} (hw : ir w) (h0 : ¬ (w = 0 ∨ w = 1 ∨ isG N (w - 10)) → Q c (-10001)) (h1 : ∀ c', (w = 0 ∨ w = 1 ∨ isG N (w - 10)) → (∀ k, 108 ≤ k → ∀ j, c' k j = c k j) → ir (c' 70 2) → ir (c' 70 3) → CSR H c' N I X → Q c' (if w = 0 then beB H N 1 (iniB c) 0 3 else if w = 1 then beB H N 1 (iniB c) 0 2 else beB H N 1 (iniB c) 1 (w - 10))) : CI K (d + 20) mX8_peace [(2, 0), (0, w)] c Q := by
  have hn := hC.n
  have seg : (w = 0 ∨ w = 1 ∨ isG N (w - 10)) → WI K (d + 20) mX8_peace 26 [(2, 0), (0, w), (0, w - 10)] [] c Q := by
    intro hg
    refine s_X8_peace_26 w _ ?_
    have ed : d + 19 = 2 * (N 0 10).toNat + (d + 13 - 2 * (N 0 10).toNat) + 6 := by omega
    rw [ed]
    refine k_find hC (Or.inr rfl) h2 h3 (fun c' lo hC' hB => ?_)
    have z5 : plR H N 1 (N 0 10).toNat 0 (fun _ => 0) (iniB c) 0 5 = 0 := plR_0 _ _ _ _ (by decide) (by omega) (Or.inr rfl)
    have h := h1 c' hg lo (by rw [hB.1.1]; exact hB.1.2) (by rw [hB.2.1.1]; exact hB.2.1.2) hC'
    refine ⟨fun z => ?_, fun z => ⟨hw, fun y => ?_, fun y => ⟨hw, ?_⟩⟩⟩
    · rw [if_pos z] at h; rw [hB.2.1.1]; exact h
    · rw [if_neg z, if_pos y] at h; rw [hB.1.1]; exact h
    · rw [if_neg z, if_neg y] at h
      have g := (hg.resolve_left z).resolve_left y
      rw [hB.2.2.2.2 _ z5 g.1 g.2]
      exact ⟨⟨g.1, by have := g.2; omega⟩, h⟩
  refine e_X8_peace w (s_X8_peace_0 w ⟨fun z => seg (Or.inl z), fun z => ⟨hw, fun y => seg (Or.inr (Or.inl y)), fun y => ⟨hw, g_isGuest' hC (w - 10) ⟨by have := hw.1; omega, by have := hw.2; omega⟩ (fun q => ⟨fun _ => h0 (fun b => b.elim z (fun b => b.elim y q)), fun q2 => absurd rfl q2⟩) (fun s1 s2 => ⟨fun q => absurd q one_ne, fun _ => ⟨ir01.2, seg (Or.inr (Or.inr ⟨s1, s2⟩))⟩⟩)⟩⟩⟩)
