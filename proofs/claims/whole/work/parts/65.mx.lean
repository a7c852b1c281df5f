/-! CONTRACTS: all that stands at the reference; trials -/
/-- an evening's rows told by hand at the reference -/
def MRW (c G : ct) : Prop := (c 108 39 = G 0 20 ∧ ∀ i, 0 ≤ i → i < 5 → (c 130 i = 0 ∨ c 130 i = 1) ∧ (i < G 0 20 → c 128 i = G 21 i ∧ c 130 i = G 22 i ∧ c 129 i = G 23 i)) ∧ (c 108 44 = G 0 24 ∧ ∀ i, 0 ≤ i → i < G 0 24 → c 132 i = G 25 i ∧ c 133 i = if 0 < G 25 i then G 26 i else 0) ∧ (c 108 45 = G 0 28 ∧ ∀ i, 0 ≤ i → i < G 0 28 → c 134 i = G 29 i ∧ c 135 i = G 30 i)
def MS (c G : ct) : Prop := MT c G ∧ MRW c G
/-- the image, as if it were now -/
def vw (c : ct) : ct := fun k j => if k = 108 then (if j = 0 then c 108 52 else if j = 1 then c 108 53 else if j = 2 then c 108 54 else if j = 3 then c 108 55 else if j = 4 then c 108 56 else if j = 11 then c 108 51 else if j = 39 then c 108 57 else if j = 44 then c 108 58 else if j = 45 then c 108 59 else 0)
  else if k = 109 then c 136 j else if k = 110 then c 137 j else if k = 111 then c 138 j else if k = 112 then c 139 j else if k = 113 then c 140 j
  else if k = 128 then c 141 j else if k = 129 then c 142 j else if k = 130 then c 147 j else if k = 132 then c 143 j else if k = 133 then c 144 j else if k = 134 then c 145 j else if k = 135 then c 146 j else 0
/-- where an evening of the reference lies -/
def evP (k j : Int) : Prop := (k = 108 ∧ (j ≤ 4 ∧ 0 ≤ j ∨ j = 11 ∨ j = 39 ∨ j = 44 ∨ j = 45)) ∨ (109 ≤ k ∧ k ≤ 112 ∧ 0 ≤ j ∧ j < 6) ∨ (k = 113 ∧ 0 ≤ j ∧ j < 24) ∨ (128 ≤ k ∧ k ≤ 130 ∧ 0 ≤ j ∧ j < 5) ∨ (132 ≤ k ∧ k ≤ 133 ∧ 0 ≤ j ∧ j < 10) ∨ (134 ≤ k ∧ k ≤ 135 ∧ 0 ≤ j ∧ j < 8)
/-- the sizes of what is told by hand -/
def SZ (G : ct) : Prop := (0 ≤ G 0 20 ∧ G 0 20 ≤ 5) ∧ (0 ≤ G 0 24 ∧ G 0 24 ≤ 10) ∧ 0 ≤ G 0 28 ∧ G 0 28 ≤ 8
theorem MS_congr {c c' G : ct} (h : MS c G) (hz : SZ G) (hc : ∀ k j, evP k j → c' k j = c k j) : MS c' G := by
  obtain ⟨⟨h0, h3, h4, h5, h1, h2, hr⟩, ⟨s0, s1⟩, ⟨p0, p1⟩, ⟨b0, b1⟩⟩ := h
  have e : ∀ j, (j ≤ 4 ∧ 0 ≤ j ∨ j = 11 ∨ j = 39 ∨ j = 44 ∨ j = 45) → c' 108 j = c 108 j := fun j a => hc 108 j (Or.inl ⟨rfl, a⟩)
  unfold SZ at hz
  refine ⟨⟨by rw [e 0 (by decide)]; exact h0, by rw [e 3 (by decide)]; exact h3, by rw [e 4 (by decide)]; exact h4, by rw [e 11 (by decide)]; exact h5, by rw [e 1 (by decide)]; exact h1, by rw [e 2 (by decide)]; exact h2, fun p a b => ?_⟩, ⟨by rw [e 39 (by decide)]; exact s0, fun i a b => ?_⟩, ⟨by rw [e 44 (by decide)]; exact p0, fun i a b => ?_⟩, ⟨by rw [e 45 (by decide)]; exact b0, fun i a b => ?_⟩⟩
  · rw [hc 109 p (by unfold evP; omega), hc 110 p (by unfold evP; omega), hc 111 p (by unfold evP; omega), hc 112 p (by unfold evP; omega)]
    obtain ⟨r1, r2, r3, r4, r5, r6, r7⟩ := hr p a b
    exact ⟨r1, r2, r3, r4, r5, r6, fun i i0 i1 => by rw [hc 113 _ (by unfold evP; omega)]; exact r7 i i0 i1⟩
  · rw [hc 128 i (by unfold evP; omega), hc 130 i (by unfold evP; omega), hc 129 i (by unfold evP; omega)]; exact s1 i a b
  · rw [hc 132 i (by unfold evP; omega), hc 133 i (by unfold evP; omega)]; exact p1 i a b
  · rw [hc 134 i (by unfold evP; omega), hc 135 i (by unfold evP; omega)]; exact b1 i a b
def MX (c X : ct) : Prop := c 108 50 = X 0 0 ∧ c 108 12 = X 0 1 ∧ c 108 10 = X 0 2 ∧ c 108 72 = X 0 3 ∧ (∀ i, 0 ≤ i → i < X 0 1 → c 114 i = X 1 i) ∧ (∀ i, 0 ≤ i → i < 20 → i < X 0 3 → c 148 i = X 2 i) ∧ ∀ t, 0 ≤ t → t < 6 → c 149 t = X 3 t ∧ c 150 t = X 4 t ∧ ∀ i, 0 ≤ i → i < 60 → c 151 (60 * t + i) = X (10 + t) i
/-- the reference's state -/
def MSR (H : hf) (c N I X : ct) : Prop := MS c N ∧ c 108 29 = 9999 ∧ MS (vw c) I ∧ (∀ i, -1 ≤ i → i < X 0 2 → MHR H c i) ∧ MX c X
/-- what is so of the told state itself -/
def PG (G X : ct) : Prop := DS G ∧ INV G ∧ SZ G ∧ (-1 ≤ G 0 13 ∧ G 0 13 < X 0 2) ∧ (0 ≤ G 0 10 ∧ G 0 10 ≤ 6) ∧ (∀ p, 0 ≤ p → p < G 0 10 → G 4 p ≤ G 0 12)
def PU (N I X : ct) : Prop := PG N X ∧ PG I X ∧ (X 0 0 = 0 ∨ X 0 0 = 1) ∧ (0 ≤ X 0 1 ∧ X 0 1 ≤ 100) ∧ (0 ≤ X 0 2 ∧ X 0 2 ≤ 6) ∧ (0 ≤ X 0 3 ∧ X 0 3 ≤ 100) ∧ (∀ i, 0 ≤ i → i < X 0 1 → 0 ≤ X 1 i ∧ X 1 i ≤ 127) ∧ ∀ t, 0 ≤ t → t < 6 → (-1 ≤ X 3 t ∧ X 3 t ≤ 4) ∧ (0 ≤ X 4 t ∧ X 4 t ≤ 60 ∧ (X 3 t = -1 → X 4 t = 0))
theorem RT_DS {H : hf} {c G : ct} {t : Int} (hR : RT H c t G) : DS G := by
  intro p q a b a2 b2 e
  obtain ⟨hT, hTS, ⟨e10, -⟩, -, hE, -⟩ := hR
  have e1 := (hE p a b).1.2.2.1
  have e2 := (hE q a2 b2).1.2.2.1
  have t1 := hTS.1 p a (by rw [e10]; exact b)
  have t2 := hTS.1 q a2 (by rw [e10]; exact b2)
  rw [e1, e] at t1
  rw [e2] at t2
  omega
theorem EV_PG {H : hf} {c G X : ct} {e : Int} (h : EV H c e G) (hI : INV G) (hx : G 0 13 < X 0 2) : PG G X := by
  obtain ⟨hR, hZ, r1, r2, r3⟩ := h
  have s1 := r1.2.2.1
  have s2 := r2.2.2.1
  have s3 := r3.2.2.1
  have hn := hR.1.1.1
  rw [hR.2.2.1.1] at hn
  exact ⟨RT_DS hR, hI, ⟨⟨s1.1, by omega⟩, ⟨s2.1, by omega⟩, s3.1, by omega⟩, ⟨hR.2.2.1.2.2.2.2.1, hx⟩, hn, fun p a b => (RT_p hR ⟨a, b⟩).2.2.2.1.2⟩
theorem CSR_PU {H : hf} {c N I X : ct} (h : CSR H c N I X) : PU N I X := by
  obtain ⟨h1, h2, h3, h4, h5, m1, m2, m3, m4, m5, m6, m7⟩ := h
  exact ⟨EV_PG h1 h3.1 h5.1, EV_PG h2 h3.2 h5.2, m1.2, m2.2, m3.2, m4.2, fun i a b => (m5 i a b).2, fun t a b => ⟨(m7 t a b).1.2, (m7 t a b).2.1.2⟩⟩
/-- what lies about at the reference and bears on nothing -/
def sqP (k j : Int) : Prop := (123 ≤ k ∧ k ≤ 127) ∨ k = 131 ∨ k = 152 ∨ (k = 108 ∧ ((13 ≤ j ∧ j ≤ 14) ∨ (23 ≤ j ∧ j ≤ 25) ∨ (30 ≤ j ∧ j ≤ 38)))
def eqS (c c' : ct) : Prop := ∀ k j, ¬ sqP k j → c' k j = c k j
theorem eqS.rf {c : ct} : eqS c c := fun _ _ _ => rfl
theorem eqS.trans {c c1 c2 : ct} (h1 : eqS c c1) (h2 : eqS c1 c2) : eqS c c2 := fun k j a => (h2 k j a).trans (h1 k j a)
theorem offL.q {c c' : ct} (h : offL c c') : eqS c c' := fun k j a => h k (fun q => a (by unfold sqP; omega)) (fun q => a (by unfold sqP; omega)) j
theorem off1.q {c c' : ct} (h : off1 c c' 123) : eqS c c' := fun k j a => h k (fun q => a (by unfold sqP; omega)) j
/-- cells below the reference's stay -/
def loM (c c' : ct) : Prop := ∀ k, k < 108 → ∀ j, c' k j = c k j
theorem loM.rf {c : ct} : loM c c := fun _ _ _ => rfl
theorem loM.trans {c c1 c2 : ct} (h1 : loM c c1) (h2 : loM c1 c2) : loM c c2 := fun k a j => (h2 k a j).trans (h1 k a j)
theorem eqS.lo {c c' : ct} (h : eqS c c') : loM c c' := fun k a j => h k j (by unfold sqP; omega)
theorem vw_108 {c : ct} {j : Int} : vw c 108 j = if j = 0 then c 108 52 else if j = 1 then c 108 53 else if j = 2 then c 108 54 else if j = 3 then c 108 55 else if j = 4 then c 108 56 else if j = 11 then c 108 51 else if j = 39 then c 108 57 else if j = 44 then c 108 58 else if j = 45 then c 108 59 else 0 := by
  unfold vw; rw [if_pos rfl]
theorem vw_congr {c c' : ct} (h0 : ∀ j, 51 ≤ j → j ≤ 59 → c' 108 j = c 108 j) (hr : ∀ k, 136 ≤ k → k ≤ 147 → ∀ j, c' k j = c k j) : vw c' = vw c := by
  funext k j
  unfold vw
  simp only [h0 51 (by decide) (by decide), h0 52 (by decide) (by decide), h0 53 (by decide) (by decide), h0 54 (by decide) (by decide), h0 55 (by decide) (by decide), h0 56 (by decide) (by decide), h0 57 (by decide) (by decide), h0 58 (by decide) (by decide), h0 59 (by decide) (by decide), hr 136 (by decide) (by decide), hr 137 (by decide) (by decide), hr 138 (by decide) (by decide), hr 139 (by decide) (by decide), hr 140 (by decide) (by decide), hr 141 (by decide) (by decide), hr 142 (by decide) (by decide), hr 143 (by decide) (by decide), hr 144 (by decide) (by decide), hr 145 (by decide) (by decide), hr 146 (by decide) (by decide), hr 147 (by decide) (by decide)]
theorem MX_congr {c c' X : ct} (h : MX c X) (h0 : ∀ j, (j = 10 ∨ j = 12 ∨ j = 50 ∨ j = 72) → c' 108 j = c 108 j) (hr : ∀ k, (k = 114 ∨ (148 ≤ k ∧ k ≤ 151)) → ∀ j, c' k j = c k j) : MX c' X := by
  unfold MX at h ⊢
  simp only [h0 10 (by decide), h0 12 (by decide), h0 50 (by decide), h0 72 (by decide), hr 114 (by decide), hr 148 (by decide), hr 149 (by decide), hr 150 (by decide), hr 151 (by decide)]
  exact h
theorem MSR_q {H : hf} {c c' N I X : ct} (h : MSR H c N I X) (hz : SZ N) (hq : eqS c c') : MSR H c' N I X := by
  obtain ⟨h1, h2, h3, h4, h5⟩ := h
  refine ⟨MS_congr h1 hz (fun k j a => hq k j (by unfold evP at a; unfold sqP; omega)), by rw [hq 108 29 (by unfold sqP; omega)]; exact h2, ?_, fun i a b => MHR_congr (h4 i a b) (fun k a b j => hq k j (by unfold sqP; omega)), MX_congr h5 (fun j a => hq 108 j (by unfold sqP; omega)) (fun k a j => hq k j (by unfold sqP; omega))⟩
  rw [vw_congr (c := c) (fun j a b => hq 108 j (by unfold sqP; omega)) (fun k a b j => hq k j (by unfold sqP; omega))]
  exact h3
theorem MSR.k {H : hf} {c N I X : ct} (h : MSR H c N I X) (hP : PU N I X) : MK H c N := ⟨h.1.1, h.2.2.2.1 _ hP.1.2.2.2.1.1 hP.1.2.2.2.1.2⟩
/-- the evening of now changes alone -/
def nowP (k j : Int) : Prop := (k = 108 ∧ ((0 ≤ j ∧ j ≤ 4) ∨ j = 11 ∨ j = 39 ∨ j = 44 ∨ j = 45)) ∨ (109 ≤ k ∧ k ≤ 113) ∨ (128 ≤ k ∧ k ≤ 130) ∨ (132 ≤ k ∧ k ≤ 135) ∨ sqP k j
theorem MSR_now {H : hf} {c c' N N' I X : ct} (h : MSR H c N I X) (hq : ∀ k j, ¬ nowP k j → c' k j = c k j) (hS : MS c' N') : MSR H c' N' I X := by
  obtain ⟨h1, h2, h3, h4, h5⟩ := h
  refine ⟨hS, by rw [hq 108 29 (by unfold nowP sqP; omega)]; exact h2, ?_, fun i a b => MHR_congr (h4 i a b) (fun k a b j => hq k j (by unfold nowP sqP; omega)), MX_congr h5 (fun j a => hq 108 j (by unfold nowP sqP; omega)) (fun k a j => hq k j (by unfold nowP sqP; omega))⟩
  rw [vw_congr (c := c) (fun j a b => hq 108 j (by unfold nowP sqP; omega)) (fun k a b j => hq k j (by unfold nowP sqP; omega))]
  exact h3
theorem MRW_congr {c c' G : ct} (h : MRW c G) (h0 : ∀ j, (j = 39 ∨ j = 44 ∨ j = 45) → c' 108 j = c 108 j) (hr : ∀ k, (128 ≤ k ∧ k ≤ 130) ∨ (132 ≤ k ∧ k ≤ 135) → ∀ j, c' k j = c k j) : MRW c' G := by
  unfold MRW at h ⊢
  simp only [h0 39 (by decide), h0 44 (by decide), h0 45 (by decide), hr 128 (by decide), hr 129 (by decide), hr 130 (by decide), hr 132 (by decide), hr 133 (by decide), hr 134 (by decide), hr 135 (by decide)]
  exact h
theorem MRW_G {c G G' : ct} (h : MRW c G) (hs : sameR G G') (h0 : same0 G G') : MRW c G' := by
  unfold MRW at h ⊢
  simp only [h0 20 (by decide), h0 24 (by decide), h0 28 (by decide), hs 21 (by decide), hs 22 (by decide), hs 23 (by decide), hs 25 (by decide), hs 26 (by decide), hs 29 (by decide), hs 30 (by decide)]
  exact h
/-- the table of now changes alone -/
theorem MSR_tab {H : hf} {c c' N N' I X : ct} (h : MSR H c N I X) (hq : ∀ k j, ¬ ((k = 108 ∧ ((0 ≤ j ∧ j ≤ 4) ∨ j = 11)) ∨ (109 ≤ k ∧ k ≤ 113) ∨ sqP k j) → c' k j = c k j) (hM : MT c' N') (hs : sameR N N') (h0 : same0 N N') : MSR H c' N' I X :=
  MSR_now h (fun k j a => hq k j (fun q => a (by unfold nowP; unfold sqP at q ⊢; omega))) ⟨hM, MRW_G (MRW_congr h.1.2 (fun j a => hq 108 j (by unfold sqP; omega)) (fun k a j => hq k j (by unfold sqP; omega))) hs h0⟩
/-- a trial: how all was lies aside -/
def trP (k j : Int) : Prop := (123 ≤ k ∧ k ≤ 127) ∨ ((k = 111 ∨ k = 112) ∧ 0 ≤ j ∧ j < 6) ∨ (k = 108 ∧ ((1 ≤ j ∧ j ≤ 4) ∨ (29 ≤ j ∧ j ≤ 38)))
def TRL (c0 c : ct) : Prop := (∀ k j, ¬ trP k j → c k j = c0 k j) ∧ (c 108 30 = c0 108 1 ∧ c 108 31 = c0 108 2 ∧ c 108 32 = c0 108 3 ∧ c 108 33 = c0 108 4 ∧ c 108 29 = 2000000000) ∧ ∀ p, 0 ≤ p → p < 6 → c 125 p = c0 111 p ∧ c 126 p = c0 112 p
theorem TRL_S {c0 c c' : ct} (h : TRL c0 c) (ho : offS c c') : TRL c0 c' := by
  obtain ⟨h1, ⟨a1, a2, a3, a4, a5⟩, h3⟩ := h
  refine ⟨fun k j a => by rw [ho k j (by unfold trP at a; unfold stP; omega)]; exact h1 k j a, ?_, fun p a b => ?_⟩
  · rw [ho 108 30 (by unfold stP; omega), ho 108 31 (by unfold stP; omega), ho 108 32 (by unfold stP; omega), ho 108 33 (by unfold stP; omega), ho 108 29 (by unfold stP; omega)]
    exact ⟨a1, a2, a3, a4, a5⟩
  · rw [ho 125 p (by unfold stP; omega), ho 126 p (by unfold stP; omega)]; exact h3 p a b
theorem m_save {H : hf} {c G : ct} {K : SK} {d : Nat} {Q : ct → Prop} (hK : MK H c G) (h : ∀ c', TRL c c' → MK H c' G → (∀ k, k ≠ 108 → k ≠ 125 → k ≠ 126 → ∀ j, c' k j = c k j) → Q c') : CV K (d + 1) mX9_save [(2, 108)] c Q := by
  have loop : ∀ (n : Nat) (p : Int) (c1 : ct), p = 6 - n → 0 ≤ p → (∀ k j, ¬ ((k = 125 ∨ k = 126) ∨ (k = 108 ∧ 29 ≤ j ∧ j ≤ 33)) → c1 k j = c k j) → (c1 108 30 = c 108 1 ∧ c1 108 31 = c 108 2 ∧ c1 108 32 = c 108 3 ∧ c1 108 33 = c 108 4 ∧ c1 108 29 = 2000000000) → (∀ q, 0 ≤ q → q < p → c1 125 q = c 111 q ∧ c1 126 q = c 112 q) → WV K (d + 1) mX9_save 41 [(2, 108), (0, p)] [] c1 Q := by
    intro n
    induction n with
    | zero =>
      intro p c1 hp p0 h1 h2 h3
      refine s_X9_save_41 p ⟨⟨by omega, by omega⟩, fun _ => ?_, fun z => absurd (by omega) z⟩
      exact h c1 ⟨fun k j a => h1 k j (by unfold trP at a; omega), h2, fun q a b => h3 q a (by omega)⟩ (MK_congr hK (fun j _ => h1 108 j (by omega)) (fun k a b j => h1 k j (by omega))) (fun k a a2 a3 j => h1 k j (by omega))
    | succ n ih =>
      intro p c1 hp p0 h1 h2 h3
      refine s_X9_save_41 p ⟨⟨by omega, by omega⟩, fun z => absurd z (by omega), fun _ => ⟨⟨p0, by omega⟩, ⟨p0, by omega⟩, fun c4 h4 => ⟨⟨p0, by omega⟩, ⟨p0, by omega⟩, fun c7 h7 => ?_⟩⟩⟩
      subst h4; subst h7
      have e1 : c1 111 p = c 111 p := h1 111 p (by omega)
      have e2 : c1 112 p = c 112 p := h1 112 p (by omega)
      refine ih (p + 1) _ (by omega) (by omega) (fun k j a => ?_) ?_ (fun q a b => ?_)
      · rw [up2_ne1 (by omega), up2_ne1 (by omega)]; exact h1 k j a
      · rw [up2_ne1 (by decide), up2_ne1 (by decide), up2_ne1 (by decide), up2_ne1 (by decide), up2_ne1 (by decide), up2_ne1 (by decide), up2_ne1 (by decide), up2_ne1 (by decide), up2_ne1 (by decide), up2_ne1 (by decide)]; exact h2
      · by_cases z : q = p
        · subst z
          rw [up2_ne1 (by decide), up2_self, up2_self, up2_ne1 (by decide), e1, e2]; exact ⟨rfl, rfl⟩
        · rw [up2_ne1 (by decide), up2_ne2 z, up2_ne2 z, up2_ne1 (by decide)]; exact h3 q a (by omega)
  refine e_X9_save (s_X9_save_0 (fun c1 h1 c2 h2 c3 h3 c4 h4 c5 h5 => ?_))
  subst h1; subst h2; subst h3; subst h4; subst h5
  refine loop 6 0 _ (by decide) (by decide) (fun k j a => ?_) ?_ (fun q a b => by omega)
  · unfold up2
    rw [if_neg (by omega), if_neg (by omega), if_neg (by omega), if_neg (by omega), if_neg (by omega)]
  · simp [up2]
theorem m_putBack {c0 c : ct} {K : SK} {d : Nat} {Q : ct → Prop} (hT : TRL c0 c) (h29 : c0 108 29 = 9999) (h : ∀ c', eqS c0 c' → (∀ j, c' 127 j = c 127 j) → c' 108 37 = c 108 37 → c' 108 38 = c 108 38 → (∀ j, c' 124 j = c 124 j) → Q c') : CV K (d + 1) mX9_putBack [(2, 108)] c Q := by
  obtain ⟨t1, ⟨a1, a2, a3, a4, a5⟩, t3⟩ := hT
  have loop : ∀ (n : Nat) (p : Int) (c1 : ct), p = 6 - n → 0 ≤ p → (∀ k j, ¬ ((k = 111 ∨ k = 112) ∨ (k = 108 ∧ ((1 ≤ j ∧ j ≤ 4) ∨ j = 29))) → c1 k j = c k j) → (c1 108 1 = c0 108 1 ∧ c1 108 2 = c0 108 2 ∧ c1 108 3 = c0 108 3 ∧ c1 108 4 = c0 108 4 ∧ c1 108 29 = 9999) → (∀ q, (0 ≤ q → p ≤ q → 6 ≤ q) → c1 111 q = c0 111 q ∧ c1 112 q = c0 112 q) → WV K (d + 1) mX9_putBack 41 [(2, 108), (0, p)] [] c1 Q := by
    intro n
    induction n with
    | zero =>
      intro p c1 hp p0 h1 h2 h3
      refine s_X9_putBack_41 p ⟨⟨by omega, by omega⟩, fun _ => ?_, fun z => absurd (by omega) z⟩
      refine h c1 (fun k j a => ?_) (fun j => h1 127 j (by omega)) (h1 108 37 (by omega)) (h1 108 38 (by omega)) (fun j => h1 124 j (by omega))
      by_cases z1 : k = 111
      · subst z1; exact (h3 j (by omega)).1
      · by_cases z2 : k = 112
        · subst z2; exact (h3 j (by omega)).2
        · by_cases z3 : k = 108 ∧ ((1 ≤ j ∧ j ≤ 4) ∨ j = 29)
          · obtain ⟨rfl, z3⟩ := z3
            have : j = 1 ∨ j = 2 ∨ j = 3 ∨ j = 4 ∨ j = 29 := by omega
            rcases this with rfl | rfl | rfl | rfl | rfl
            · exact h2.1
            · exact h2.2.1
            · exact h2.2.2.1
            · exact h2.2.2.2.1
            · rw [h2.2.2.2.2, h29]
          · rw [h1 k j (by omega)]
            exact t1 k j (by unfold trP; unfold sqP at a; omega)
    | succ n ih =>
      intro p c1 hp p0 h1 h2 h3
      refine s_X9_putBack_41 p ⟨⟨by omega, by omega⟩, fun z => absurd z (by omega), fun _ => ⟨⟨p0, by omega⟩, ⟨p0, by omega⟩, fun c4 h4 => ⟨⟨p0, by omega⟩, ⟨p0, by omega⟩, fun c7 h7 => ?_⟩⟩⟩
      subst h4; subst h7
      have e1 : c1 125 p = c0 111 p := by rw [h1 125 p (by omega)]; exact (t3 p p0 (by omega)).1
      have e2 : c1 126 p = c0 112 p := by rw [h1 126 p (by omega)]; exact (t3 p p0 (by omega)).2
      refine ih (p + 1) _ (by omega) (by omega) (fun k j a => ?_) ?_ (fun q a => ?_)
      · rw [up2_ne1 (by omega), up2_ne1 (by omega)]; exact h1 k j a
      · rw [up2_ne1 (by decide), up2_ne1 (by decide), up2_ne1 (by decide), up2_ne1 (by decide), up2_ne1 (by decide), up2_ne1 (by decide), up2_ne1 (by decide), up2_ne1 (by decide), up2_ne1 (by decide), up2_ne1 (by decide)]; exact h2
      · by_cases z : q = p
        · subst z
          rw [up2_ne1 (by decide), up2_self, up2_self, up2_ne1 (by decide), e1, e2]; exact ⟨rfl, rfl⟩
        · rw [up2_ne1 (by decide), up2_ne2 z, up2_ne2 z, up2_ne1 (by decide)]; exact h3 q (by omega)
  refine e_X9_putBack (s_X9_putBack_0 (fun c1 h1 c2 h2 c3 h3 c4 h4 c5 h5 => ?_))
  subst h1; subst h2; subst h3; subst h4; subst h5
  refine loop 6 0 _ (by decide) (by decide) (fun k j a => ?_) ?_ (fun q a => ?_)
  · unfold up2
    rw [if_neg (by omega), if_neg (by omega), if_neg (by omega), if_neg (by omega), if_neg (by omega)]
  · simp [up2, a1, a2, a3, a4]
  · have b1 := t1 111 q (by unfold trP; omega)
    have b2 := t1 112 q (by unfold trP; omega)
    simp [up2, b1, b2]
theorem m_usesMore {c0 c N M : ct} {K : SK} {d : Nat} {Q : ct → Int → Prop} (hT : TRL c0 c) (h0 : MT c0 N) (hM : MT c M) (hn : M 0 10 = N 0 10) (h : Q c (usG M - usG N)) : CI K (d + 1) mX9_usesMore [(2, 108)] c Q := by
  obtain ⟨e0, n0, n6⟩ := hM.1
  have loop : ∀ (n : Nat) (p a : Int), p = M 0 10 - n → 0 ≤ p → Q c (a + (smR (M 4) n p - smR (N 4) n p)) → WI K (d + 1) mX9_usesMore 4 [(2, 108), (0, a), (0, p)] [] c Q := by
    intro n
    induction n with
    | zero =>
      intro p a hp p0 hq
      refine s_X9_usesMore_4 a p ?_
      rw [e0]
      exact ⟨⟨⟨by omega, by omega⟩, ⟨by omega, by omega⟩⟩, fun _ => by simpa [smR] using hq, fun z => absurd (by omega) z⟩
    | succ n ih =>
      intro p a hp p0 hq
      have f1 := (hM.2.2.2.2.2.2 p p0 (by omega)).2.2.2.1.1
      have f2 := (h0.2.2.2.2.2.2 p p0 (by omega)).2.2.2.1.1
      refine s_X9_usesMore_4 a p ?_
      rw [e0, f1, (hT.2.2 p p0 (by omega)).2, f2]
      refine ⟨⟨⟨by omega, by omega⟩, ⟨by omega, by omega⟩⟩, fun z => absurd z (by omega), fun _ => ⟨⟨p0, by omega⟩, ⟨p0, by omega⟩, ih (p + 1) _ (by omega) (by omega) ?_⟩⟩
      rw [smR, smR] at hq
      have : a + (M 4 p - N 4 p) + (smR (M 4) n (p + 1) - smR (N 4) n (p + 1)) = a + (M 4 p + smR (M 4) n (p + 1) - (N 4 p + smR (N 4) n (p + 1))) := by omega
      rw [this]; exact hq
  refine e_X9_usesMore (s_X9_usesMore_0 (loop (M 0 10).toNat 0 0 (by omega) (by decide) ?_))
  rw [Int.zero_add]
  unfold usG at h
  rw [← hn] at h
  exact h
