/-! CONTRACTS: the reference's image -/
/-- so far the image is taken, from c on -/
def IMG (c c1 : ct) (a b e f g : Int) : Prop := (∀ k j, ¬ (136 ≤ k ∧ k ≤ 147) → c1 k j = c k j) ∧ (∀ q, 0 ≤ q → q < a → c1 136 q = c 109 q ∧ c1 137 q = c 110 q ∧ c1 138 q = c 111 q ∧ c1 139 q = c 112 q) ∧ (∀ q, 0 ≤ q → q < b → c1 140 q = c 113 q) ∧ (∀ q, 0 ≤ q → q < e → c1 141 q = c 128 q ∧ c1 147 q = c 130 q ∧ c1 142 q = c 129 q) ∧ (∀ q, 0 ≤ q → q < f → c1 143 q = c 132 q ∧ c1 144 q = c 133 q) ∧ ∀ q, 0 ≤ q → q < g → c1 145 q = c 134 q ∧ c1 146 q = c 135 q
theorem k_image {c : ct} {K : SK} {d : Nat} {Q : ct → Int → Prop} (hb : ∀ i, 0 ≤ i → i < 5 → c 130 i = 0 ∨ c 130 i = 1) (h : ∀ c1, IMG c c1 6 24 5 10 8 → Q c1 (c1 108 0)) : WI K (d + 1) mX9_image 79 [(2, 108), (0, 0)] [] c Q := by
  have l5 : ∀ (n : Nat) (p : Int) (c1 : ct), p = 8 - n → 0 ≤ p → IMG c c1 6 24 5 10 p → WI K (d + 1) mX9_image 254 [(2, 108), (0, p)] [] c1 Q := by
    intro n
    induction n with
    | zero =>
      intro p c1 hp p0 hi
      have : p = 8 := by omega
      subst this
      exact s_X9_image_254 8 ⟨⟨by omega, by omega⟩, fun _ => h c1 hi, fun z => absurd (by omega) z⟩
    | succ n ih =>
      intro p c1 hp p0 hi
      refine s_X9_image_254 p ⟨⟨by omega, by omega⟩, fun z => absurd z (by omega), fun _ => ⟨⟨p0, by omega⟩, ⟨p0, by omega⟩, fun c4 h4 => ⟨⟨p0, by omega⟩, ⟨p0, by omega⟩, fun c7 h7 => ih (p + 1) c7 (by omega) (by omega) ?_⟩⟩⟩
      obtain ⟨f0, f1, f2, f3, f4, f5⟩ := hi
      have g1 := f0 134 p (by omega)
      have g2 := f0 135 p (by omega)
      have hc : ∀ k j, c7 k j = if k = 146 ∧ j = p then c 135 p else if k = 145 ∧ j = p then c 134 p else c1 k j := fun k j => by
        rw [h7, h4, up2_ne1 (a := 135) (by decide), g1, g2]; rfl
      refine ⟨fun k j a => by rw [hc, if_neg (by omega), if_neg (by omega)]; exact f0 k j a, fun q a b => ?_, fun q a b => ?_, fun q a b => ?_, fun q a b => ?_, fun q a b => ?_⟩
      · simp only [hc]; simpa using f1 q a b
      · simp only [hc]; simpa using f2 q a b
      · simp only [hc]; simpa using f3 q a b
      · simp only [hc]; simpa using f4 q a b
      · simp only [hc]
        by_cases z : q = p
        · subst z; simp
        · simpa [z] using f5 q a (by omega)
  have l4 : ∀ (n : Nat) (p : Int) (c1 : ct), p = 10 - n → 0 ≤ p → IMG c c1 6 24 5 p 0 → WI K (d + 1) mX9_image 216 [(2, 108), (0, p)] [] c1 Q := by
    intro n
    induction n with
    | zero =>
      intro p c1 hp p0 hi
      have : p = 10 := by omega
      subst this
      exact s_X9_image_216 10 ⟨⟨by omega, by omega⟩, fun _ => l5 8 0 c1 (by decide) (by decide) hi, fun z => absurd (by omega) z⟩
    | succ n ih =>
      intro p c1 hp p0 hi
      refine s_X9_image_216 p ⟨⟨by omega, by omega⟩, fun z => absurd z (by omega), fun _ => ⟨⟨p0, by omega⟩, ⟨p0, by omega⟩, fun c4 h4 => ⟨⟨p0, by omega⟩, ⟨p0, by omega⟩, fun c7 h7 => ih (p + 1) c7 (by omega) (by omega) ?_⟩⟩⟩
      obtain ⟨f0, f1, f2, f3, f4, f5⟩ := hi
      have g1 := f0 132 p (by omega)
      have g2 := f0 133 p (by omega)
      have hc : ∀ k j, c7 k j = if k = 144 ∧ j = p then c 133 p else if k = 143 ∧ j = p then c 132 p else c1 k j := fun k j => by
        rw [h7, h4, up2_ne1 (a := 133) (by decide), g1, g2]; rfl
      refine ⟨fun k j a => by rw [hc, if_neg (by omega), if_neg (by omega)]; exact f0 k j a, fun q a b => ?_, fun q a b => ?_, fun q a b => ?_, fun q a b => ?_, fun q a b => by omega⟩
      · simp only [hc]; simpa using f1 q a b
      · simp only [hc]; simpa using f2 q a b
      · simp only [hc]; simpa using f3 q a b
      · simp only [hc]
        by_cases z : q = p
        · subst z; simp
        · simpa [z] using f4 q a (by omega)
  have l3 : ∀ (n : Nat) (p : Int) (c1 : ct), p = 5 - n → 0 ≤ p → IMG c c1 6 24 p 0 0 → WI K (d + 1) mX9_image 167 [(2, 108), (0, p)] [] c1 Q := by
    intro n
    induction n with
    | zero =>
      intro p c1 hp p0 hi
      have : p = 5 := by omega
      subst this
      exact s_X9_image_167 5 ⟨⟨by omega, by omega⟩, fun _ => l4 10 0 c1 (by decide) (by decide) hi, fun z => absurd (by omega) z⟩
    | succ n ih =>
      intro p c1 hp p0 hi
      obtain ⟨f0, f1, f2, f3, f4, f5⟩ := hi
      have g1 := f0 128 p (by omega)
      have g2 := f0 130 p (by omega)
      have g3 := f0 129 p (by omega)
      refine s_X9_image_167 p ⟨⟨by omega, by omega⟩, fun z => absurd z (by omega), fun _ => ⟨⟨p0, by omega⟩, ⟨p0, by omega⟩, fun c4 h4 => ?_⟩⟩
      rw [show c4 130 p = c 130 p from by rw [h4, up2_ne1 (by decide)]; exact g2]
      refine ⟨⟨p0, by omega⟩, ⟨⟨p0, by omega⟩, hb p p0 (by omega)⟩, fun c7 h7 => ⟨⟨p0, by omega⟩, ⟨p0, by omega⟩, fun c10 h10 => ih (p + 1) c10 (by omega) (by omega) ?_⟩⟩
      have hc : ∀ k j, c10 k j = if k = 142 ∧ j = p then c 129 p else if k = 147 ∧ j = p then c 130 p else if k = 141 ∧ j = p then c 128 p else c1 k j := fun k j => by
        rw [h10, h7, h4, up2_ne1 (a := 129) (by decide), up2_ne1 (a := 129) (by decide), g1, g3]; rfl
      refine ⟨fun k j a => by rw [hc, if_neg (by omega), if_neg (by omega), if_neg (by omega)]; exact f0 k j a, fun q a b => ?_, fun q a b => ?_, fun q a b => ?_, fun q a b => by omega, fun q a b => by omega⟩
      · simp only [hc]; simpa using f1 q a b
      · simp only [hc]; simpa using f2 q a b
      · simp only [hc]
        by_cases z : q = p
        · subst z; simp
        · simpa [z] using f3 q a (by omega)
  have l2 : ∀ (n : Nat) (p : Int) (c1 : ct), p = 24 - n → 0 ≤ p → IMG c c1 6 p 0 0 0 → WI K (d + 1) mX9_image 141 [(2, 108), (0, p)] [] c1 Q := by
    intro n
    induction n with
    | zero =>
      intro p c1 hp p0 hi
      have : p = 24 := by omega
      subst this
      exact s_X9_image_141 24 ⟨⟨by omega, by omega⟩, fun _ => l3 5 0 c1 (by decide) (by decide) hi, fun z => absurd (by omega) z⟩
    | succ n ih =>
      intro p c1 hp p0 hi
      refine s_X9_image_141 p ⟨⟨by omega, by omega⟩, fun z => absurd z (by omega), fun _ => ⟨⟨p0, by omega⟩, ⟨p0, by omega⟩, fun c4 h4 => ih (p + 1) c4 (by omega) (by omega) ?_⟩⟩
      obtain ⟨f0, f1, f2, f3, f4, f5⟩ := hi
      have g1 := f0 113 p (by omega)
      have hc : ∀ k j, c4 k j = if k = 140 ∧ j = p then c 113 p else c1 k j := fun k j => by
        rw [h4, g1]; rfl
      refine ⟨fun k j a => by rw [hc, if_neg (by omega)]; exact f0 k j a, fun q a b => ?_, fun q a b => ?_, fun q a b => by omega, fun q a b => by omega, fun q a b => by omega⟩
      · simp only [hc]; simpa using f1 q a b
      · simp only [hc]
        by_cases z : q = p
        · subst z; simp
        · simpa [z] using f2 q a (by omega)
  have l1 : ∀ (n : Nat) (p : Int) (c1 : ct), p = 6 - n → 0 ≤ p → IMG c c1 p 0 0 0 0 → WI K (d + 1) mX9_image 79 [(2, 108), (0, p)] [] c1 Q := by
    intro n
    induction n with
    | zero =>
      intro p c1 hp p0 hi
      have : p = 6 := by omega
      subst this
      exact s_X9_image_79 6 ⟨⟨by omega, by omega⟩, fun _ => l2 24 0 c1 (by decide) (by decide) hi, fun z => absurd (by omega) z⟩
    | succ n ih =>
      intro p c1 hp p0 hi
      refine s_X9_image_79 p ⟨⟨by omega, by omega⟩, fun z => absurd z (by omega), fun _ => ⟨⟨p0, by omega⟩, ⟨p0, by omega⟩, fun c4 h4 => ⟨⟨p0, by omega⟩, ⟨p0, by omega⟩, fun c7 h7 => ⟨⟨p0, by omega⟩, ⟨p0, by omega⟩, fun c10 h10 => ⟨⟨p0, by omega⟩, ⟨p0, by omega⟩, fun c13 h13 => ih (p + 1) c13 (by omega) (by omega) ?_⟩⟩⟩⟩⟩
      obtain ⟨f0, f1, f2, f3, f4, f5⟩ := hi
      have g1 := f0 109 p (by omega)
      have g2 := f0 110 p (by omega)
      have g3 := f0 111 p (by omega)
      have g4 := f0 112 p (by omega)
      have hc : ∀ k j, c13 k j = if k = 139 ∧ j = p then c 112 p else if k = 138 ∧ j = p then c 111 p else if k = 137 ∧ j = p then c 110 p else if k = 136 ∧ j = p then c 109 p else c1 k j := fun k j => by
        rw [h13, h10, h7, h4]
        rw [up2_ne1 (a := 112) (by decide), up2_ne1 (a := 112) (by decide), up2_ne1 (a := 112) (by decide), up2_ne1 (a := 111) (by decide), up2_ne1 (a := 111) (by decide), up2_ne1 (a := 110) (by decide), g1, g2, g3, g4]
        rfl
      refine ⟨fun k j a => by rw [hc, if_neg (by omega), if_neg (by omega), if_neg (by omega), if_neg (by omega)]; exact f0 k j a, fun q a b => ?_, fun q a b => by omega, fun q a b => by omega, fun q a b => by omega, fun q a b => by omega⟩
      simp only [hc]
      by_cases z : q = p
      · subst z; simp
      · simpa [z] using f1 q a (by omega)
  exact l1 6 0 c (by decide) (by decide) ⟨fun _ _ _ => rfl, fun q a b => by omega, fun q a b => by omega, fun q a b => by omega, fun q a b => by omega, fun q a b => by omega⟩
theorem n_image {H : hf} {c N I X : ct} {K : SK} {d : Nat} {Q : ct → Int → Prop} (hM : MSR H c N I X) (hP : PU N I X) (h : ∀ c', loM c c' → MSR H c' N N (x0X X 0 1) → Q c' (N 0 10)) : CI K (d + 1) mX9_image [(2, 108)] c Q := by
  refine e_X9_image (s_X9_image_0 (fun c1 h1 c2 h2 c3 h3 c4 h4 c5 h5 c6 h6 c7 h7 c8 h8 c9 h9 c10 h10 => ?_))
  have f10 : ∀ k j, c10 k j = if k = 108 ∧ j = 59 then c 108 45 else if k = 108 ∧ j = 58 then c 108 44 else if k = 108 ∧ j = 57 then c 108 39 else if k = 108 ∧ j = 56 then c 108 4 else if k = 108 ∧ j = 55 then c 108 3 else if k = 108 ∧ j = 54 then c 108 2 else if k = 108 ∧ j = 53 then c 108 1 else if k = 108 ∧ j = 52 then c 108 0 else if k = 108 ∧ j = 51 then c 108 11 else if k = 108 ∧ j = 50 then 1 else c k j := fun k j => by
    subst h1; subst h2; subst h3; subst h4; subst h5; subst h6; subst h7; subst h8; subst h9; subst h10
    simp [up2]
  have fr : ∀ k j, ¬ (k = 108 ∧ 50 ≤ j ∧ j ≤ 59) → c10 k j = c k j := fun k j a => by
    rw [f10, if_neg (by omega), if_neg (by omega), if_neg (by omega), if_neg (by omega), if_neg (by omega), if_neg (by omega), if_neg (by omega), if_neg (by omega), if_neg (by omega), if_neg (by omega)]
  refine k_image (fun i a b => by rw [fr 130 i (by omega)]; exact (hM.1.2.1.2 i a b).1) (fun c1' hI => ?_)
  obtain ⟨i0, i1, i2, i3, i4, i5⟩ := hI
  have g0 : ∀ k j, ¬ (k = 108 ∧ 50 ≤ j ∧ j ≤ 59) → ¬ (136 ≤ k ∧ k ≤ 147) → c1' k j = c k j := fun k j a b => by rw [i0 k j b]; exact fr k j a
  rw [g0 108 0 (by omega) (by omega), hM.1.1.1.1]
  obtain ⟨m1, m29, m3, m4, x0, x1, x2, x3, x4, x5, x6⟩ := hM
  have e8 : ∀ j, c1' 108 j = c10 108 j := fun j => i0 108 j (by omega)
  have hv : MS (vw c1') N := MS_congr m1 hP.1.2.2.1 (fun k j a => by
    unfold evP at a
    rcases a with ⟨rfl, a⟩ | ⟨a1, a2, a3, a4⟩ | ⟨rfl, a1, a2⟩ | ⟨a1, a2, a3, a4⟩ | ⟨a1, a2, a3, a4⟩ | ⟨a1, a2, a3, a4⟩
    · rw [vw_108, e8, e8, e8, e8, e8, e8, e8, e8, e8]
      have : j = 0 ∨ j = 1 ∨ j = 2 ∨ j = 3 ∨ j = 4 ∨ j = 11 ∨ j = 39 ∨ j = 44 ∨ j = 45 := by omega
      rcases this with rfl | rfl | rfl | rfl | rfl | rfl | rfl | rfl | rfl <;> simp [f10]
    · have : k = 109 ∨ k = 110 ∨ k = 111 ∨ k = 112 := by omega
      have b := i1 j a3 a4
      rcases this with rfl | rfl | rfl | rfl
      · show c1' 136 j = c 109 j; rw [b.1]; exact fr 109 j (by omega)
      · show c1' 137 j = c 110 j; rw [b.2.1]; exact fr 110 j (by omega)
      · show c1' 138 j = c 111 j; rw [b.2.2.1]; exact fr 111 j (by omega)
      · show c1' 139 j = c 112 j; rw [b.2.2.2]; exact fr 112 j (by omega)
    · show c1' 140 j = c 113 j; rw [i2 j a1 a2]; exact fr 113 j (by omega)
    · have : k = 128 ∨ k = 129 ∨ k = 130 := by omega
      have b := i3 j a3 a4
      rcases this with rfl | rfl | rfl
      · show c1' 141 j = c 128 j; rw [b.1]; exact fr 128 j (by omega)
      · show c1' 142 j = c 129 j; rw [b.2.2]; exact fr 129 j (by omega)
      · show c1' 147 j = c 130 j; rw [b.2.1]; exact fr 130 j (by omega)
    · have : k = 132 ∨ k = 133 := by omega
      have b := i4 j a3 a4
      rcases this with rfl | rfl
      · show c1' 143 j = c 132 j; rw [b.1]; exact fr 132 j (by omega)
      · show c1' 144 j = c 133 j; rw [b.2]; exact fr 133 j (by omega)
    · have : k = 134 ∨ k = 135 := by omega
      have b := i5 j a3 a4
      rcases this with rfl | rfl
      · show c1' 145 j = c 134 j; rw [b.1]; exact fr 134 j (by omega)
      · show c1' 146 j = c 135 j; rw [b.2]; exact fr 135 j (by omega))
  refine h c1' (fun k w j => g0 k j (by omega) (by omega)) ⟨MS_congr m1 hP.1.2.2.1 (fun k j a => g0 k j (by unfold evP at a; omega) (by unfold evP at a; omega)), by rw [g0 108 29 (by omega) (by omega)]; exact m29, hv, fun i a b => MHR_congr (m4 i a (by rw [x0_k (Or.inr (by decide))] at b; exact b)) (fun k a b j => g0 k j (by omega) (by omega)), ?_, ?_, ?_, ?_, fun i a b => ?_, fun i a b e => ?_, fun t a b => ?_⟩
  · rw [e8, f10, x0_s]; simp
  · rw [g0 108 12 (by omega) (by omega), x0_k (Or.inr (by decide))]; exact x1
  · rw [g0 108 10 (by omega) (by omega), x0_k (Or.inr (by decide))]; exact x2
  · rw [g0 108 72 (by omega) (by omega), x0_k (Or.inr (by decide))]; exact x3
  · rw [x0_k (Or.inr (by decide))] at b
    rw [g0 114 i (by omega) (by omega), x0_k (Or.inl (by decide))]; exact x4 i a b
  · rw [x0_k (Or.inr (by decide))] at e
    rw [g0 148 i (by omega) (by omega), x0_k (Or.inl (by decide))]; exact x5 i a b e
  · rw [g0 149 t (by omega) (by omega), g0 150 t (by omega) (by omega), x0_k (Or.inl (by decide)), x0_k (Or.inl (by decide))]
    obtain ⟨y1, y2, y3⟩ := x6 t a b
    exact ⟨y1, y2, fun i a b => by rw [g0 151 _ (by omega) (by omega), x0_k (Or.inl (by omega))]; exact y3 i a b⟩
