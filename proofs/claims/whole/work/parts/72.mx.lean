/-! CONTRACTS: the reference goes back to the image -/
/-- so far all is as the image -/
def UND (c c1 : ct) (a b e f g : Int) : Prop := (∀ k j, ¬ ((109 ≤ k ∧ k ≤ 113) ∨ (128 ≤ k ∧ k ≤ 130) ∨ (132 ≤ k ∧ k ≤ 135)) → c1 k j = c k j) ∧ (∀ q, 0 ≤ q → q < a → c1 109 q = c 136 q ∧ c1 110 q = c 137 q ∧ c1 111 q = c 138 q ∧ c1 112 q = c 139 q) ∧ (∀ q, 0 ≤ q → q < b → c1 113 q = c 140 q) ∧ (∀ q, 0 ≤ q → q < e → c1 128 q = c 141 q ∧ c1 130 q = c 147 q ∧ c1 129 q = c 142 q) ∧ (∀ q, 0 ≤ q → q < f → c1 132 q = c 143 q ∧ c1 133 q = c 144 q) ∧ ∀ q, 0 ≤ q → q < g → c1 134 q = c 145 q ∧ c1 135 q = c 146 q
theorem k_undo {c : ct} {K : SK} {d : Nat} {Q : ct → Int → Prop} (hb : ∀ i, 0 ≤ i → i < 5 → c 147 i = 0 ∨ c 147 i = 1) (h : ∀ c1, UND c c1 6 24 5 10 8 → Q c1 (c1 108 0)) : WI K (d + 1) mX9_undo 84 [(2, 108), (0, 0)] [] c Q := by
  have l5 : ∀ (n : Nat) (p : Int) (c1 : ct), p = 8 - n → 0 ≤ p → UND c c1 6 24 5 10 p → WI K (d + 1) mX9_undo 259 [(2, 108), (0, p)] [] c1 Q := by
    intro n
    induction n with
    | zero =>
      intro p c1 hp p0 hi
      have : p = 8 := by omega
      subst this
      exact s_X9_undo_259 8 ⟨⟨by omega, by omega⟩, fun _ => h c1 hi, fun z => absurd (by omega) z⟩
    | succ n ih =>
      intro p c1 hp p0 hi
      refine s_X9_undo_259 p ⟨⟨by omega, by omega⟩, fun z => absurd z (by omega), fun _ => ⟨⟨p0, by omega⟩, ⟨p0, by omega⟩, fun c4 h4 => ⟨⟨p0, by omega⟩, ⟨p0, by omega⟩, fun c7 h7 => ih (p + 1) c7 (by omega) (by omega) ?_⟩⟩⟩
      obtain ⟨f0, f1, f2, f3, f4, f5⟩ := hi
      have g1 := f0 145 p (by omega)
      have g2 := f0 146 p (by omega)
      have hc : ∀ k j, c7 k j = if k = 135 ∧ j = p then c 146 p else if k = 134 ∧ j = p then c 145 p else c1 k j := fun k j => by
        rw [h7, h4, up2_ne1 (a := 146) (by decide), g1, g2]; rfl
      refine ⟨fun k j a => by rw [hc, if_neg (by omega), if_neg (by omega)]; exact f0 k j a, fun q a b => ?_, fun q a b => ?_, fun q a b => ?_, fun q a b => ?_, fun q a b => ?_⟩
      · simp only [hc]; simpa using f1 q a b
      · simp only [hc]; simpa using f2 q a b
      · simp only [hc]; simpa using f3 q a b
      · simp only [hc]; simpa using f4 q a b
      · simp only [hc]
        by_cases z : q = p
        · subst z; simp
        · simpa [z] using f5 q a (by omega)
  have l4 : ∀ (n : Nat) (p : Int) (c1 : ct), p = 10 - n → 0 ≤ p → UND c c1 6 24 5 p 0 → WI K (d + 1) mX9_undo 221 [(2, 108), (0, p)] [] c1 Q := by
    intro n
    induction n with
    | zero =>
      intro p c1 hp p0 hi
      have : p = 10 := by omega
      subst this
      exact s_X9_undo_221 10 ⟨⟨by omega, by omega⟩, fun _ => l5 8 0 c1 (by decide) (by decide) hi, fun z => absurd (by omega) z⟩
    | succ n ih =>
      intro p c1 hp p0 hi
      refine s_X9_undo_221 p ⟨⟨by omega, by omega⟩, fun z => absurd z (by omega), fun _ => ⟨⟨p0, by omega⟩, ⟨p0, by omega⟩, fun c4 h4 => ⟨⟨p0, by omega⟩, ⟨p0, by omega⟩, fun c7 h7 => ih (p + 1) c7 (by omega) (by omega) ?_⟩⟩⟩
      obtain ⟨f0, f1, f2, f3, f4, f5⟩ := hi
      have g1 := f0 143 p (by omega)
      have g2 := f0 144 p (by omega)
      have hc : ∀ k j, c7 k j = if k = 133 ∧ j = p then c 144 p else if k = 132 ∧ j = p then c 143 p else c1 k j := fun k j => by
        rw [h7, h4, up2_ne1 (a := 144) (by decide), g1, g2]; rfl
      refine ⟨fun k j a => by rw [hc, if_neg (by omega), if_neg (by omega)]; exact f0 k j a, fun q a b => ?_, fun q a b => ?_, fun q a b => ?_, fun q a b => ?_, fun q a b => by omega⟩
      · simp only [hc]; simpa using f1 q a b
      · simp only [hc]; simpa using f2 q a b
      · simp only [hc]; simpa using f3 q a b
      · simp only [hc]
        by_cases z : q = p
        · subst z; simp
        · simpa [z] using f4 q a (by omega)
  have l3 : ∀ (n : Nat) (p : Int) (c1 : ct), p = 5 - n → 0 ≤ p → UND c c1 6 24 p 0 0 → WI K (d + 1) mX9_undo 172 [(2, 108), (0, p)] [] c1 Q := by
    intro n
    induction n with
    | zero =>
      intro p c1 hp p0 hi
      have : p = 5 := by omega
      subst this
      exact s_X9_undo_172 5 ⟨⟨by omega, by omega⟩, fun _ => l4 10 0 c1 (by decide) (by decide) hi, fun z => absurd (by omega) z⟩
    | succ n ih =>
      intro p c1 hp p0 hi
      obtain ⟨f0, f1, f2, f3, f4, f5⟩ := hi
      have g1 := f0 141 p (by omega)
      have g2 := f0 147 p (by omega)
      have g3 := f0 142 p (by omega)
      refine s_X9_undo_172 p ⟨⟨by omega, by omega⟩, fun z => absurd z (by omega), fun _ => ⟨⟨p0, by omega⟩, ⟨p0, by omega⟩, fun c4 h4 => ?_⟩⟩
      rw [show c4 147 p = c 147 p from by rw [h4, up2_ne1 (by decide)]; exact g2]
      refine ⟨⟨p0, by omega⟩, ⟨⟨p0, by omega⟩, hb p p0 (by omega)⟩, fun c7 h7 => ⟨⟨p0, by omega⟩, ⟨p0, by omega⟩, fun c10 h10 => ih (p + 1) c10 (by omega) (by omega) ?_⟩⟩
      have hc : ∀ k j, c10 k j = if k = 129 ∧ j = p then c 142 p else if k = 130 ∧ j = p then c 147 p else if k = 128 ∧ j = p then c 141 p else c1 k j := fun k j => by
        rw [h10, h7, h4, up2_ne1 (a := 142) (by decide), up2_ne1 (a := 142) (by decide), g1, g3]; rfl
      refine ⟨fun k j a => by rw [hc, if_neg (by omega), if_neg (by omega), if_neg (by omega)]; exact f0 k j a, fun q a b => ?_, fun q a b => ?_, fun q a b => ?_, fun q a b => by omega, fun q a b => by omega⟩
      · simp only [hc]; simpa using f1 q a b
      · simp only [hc]; simpa using f2 q a b
      · simp only [hc]
        by_cases z : q = p
        · subst z; simp
        · simpa [z] using f3 q a (by omega)
  have l2 : ∀ (n : Nat) (p : Int) (c1 : ct), p = 24 - n → 0 ≤ p → UND c c1 6 p 0 0 0 → WI K (d + 1) mX9_undo 146 [(2, 108), (0, p)] [] c1 Q := by
    intro n
    induction n with
    | zero =>
      intro p c1 hp p0 hi
      have : p = 24 := by omega
      subst this
      exact s_X9_undo_146 24 ⟨⟨by omega, by omega⟩, fun _ => l3 5 0 c1 (by decide) (by decide) hi, fun z => absurd (by omega) z⟩
    | succ n ih =>
      intro p c1 hp p0 hi
      refine s_X9_undo_146 p ⟨⟨by omega, by omega⟩, fun z => absurd z (by omega), fun _ => ⟨⟨p0, by omega⟩, ⟨p0, by omega⟩, fun c4 h4 => ih (p + 1) c4 (by omega) (by omega) ?_⟩⟩
      obtain ⟨f0, f1, f2, f3, f4, f5⟩ := hi
      have g1 := f0 140 p (by omega)
      have hc : ∀ k j, c4 k j = if k = 113 ∧ j = p then c 140 p else c1 k j := fun k j => by
        rw [h4, g1]; rfl
      refine ⟨fun k j a => by rw [hc, if_neg (by omega)]; exact f0 k j a, fun q a b => ?_, fun q a b => ?_, fun q a b => by omega, fun q a b => by omega, fun q a b => by omega⟩
      · simp only [hc]; simpa using f1 q a b
      · simp only [hc]
        by_cases z : q = p
        · subst z; simp
        · simpa [z] using f2 q a (by omega)
  have l1 : ∀ (n : Nat) (p : Int) (c1 : ct), p = 6 - n → 0 ≤ p → UND c c1 p 0 0 0 0 → WI K (d + 1) mX9_undo 84 [(2, 108), (0, p)] [] c1 Q := by
    intro n
    induction n with
    | zero =>
      intro p c1 hp p0 hi
      have : p = 6 := by omega
      subst this
      exact s_X9_undo_84 6 ⟨⟨by omega, by omega⟩, fun _ => l2 24 0 c1 (by decide) (by decide) hi, fun z => absurd (by omega) z⟩
    | succ n ih =>
      intro p c1 hp p0 hi
      refine s_X9_undo_84 p ⟨⟨by omega, by omega⟩, fun z => absurd z (by omega), fun _ => ⟨⟨p0, by omega⟩, ⟨p0, by omega⟩, fun c4 h4 => ⟨⟨p0, by omega⟩, ⟨p0, by omega⟩, fun c7 h7 => ⟨⟨p0, by omega⟩, ⟨p0, by omega⟩, fun c10 h10 => ⟨⟨p0, by omega⟩, ⟨p0, by omega⟩, fun c13 h13 => ih (p + 1) c13 (by omega) (by omega) ?_⟩⟩⟩⟩⟩
      obtain ⟨f0, f1, f2, f3, f4, f5⟩ := hi
      have g1 := f0 136 p (by omega)
      have g2 := f0 137 p (by omega)
      have g3 := f0 138 p (by omega)
      have g4 := f0 139 p (by omega)
      have hc : ∀ k j, c13 k j = if k = 112 ∧ j = p then c 139 p else if k = 111 ∧ j = p then c 138 p else if k = 110 ∧ j = p then c 137 p else if k = 109 ∧ j = p then c 136 p else c1 k j := fun k j => by
        rw [h13, h10, h7, h4]
        rw [up2_ne1 (a := 139) (by decide), up2_ne1 (a := 139) (by decide), up2_ne1 (a := 139) (by decide), up2_ne1 (a := 138) (by decide), up2_ne1 (a := 138) (by decide), up2_ne1 (a := 137) (by decide), g1, g2, g3, g4]
        rfl
      refine ⟨fun k j a => by rw [hc, if_neg (by omega), if_neg (by omega), if_neg (by omega), if_neg (by omega)]; exact f0 k j a, fun q a b => ?_, fun q a b => by omega, fun q a b => by omega, fun q a b => by omega, fun q a b => by omega⟩
      simp only [hc]
      by_cases z : q = p
      · subst z; simp
      · simpa [z] using f1 q a (by omega)
  exact l1 6 0 c (by decide) (by decide) ⟨fun _ _ _ => rfl, fun q a b => by omega, fun q a b => by omega, fun q a b => by omega, fun q a b => by omega, fun q a b => by omega⟩
