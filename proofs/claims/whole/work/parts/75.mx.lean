/-! CONTRACTS: the reference's acts -/
theorem MX_psh {c c' X : ct} {b : Int} (h : MX c X) (hx : 0 ≤ X 0 3) (ho : ∀ k j, ¬ ((k = 108 ∧ j = 72) ∨ k = 148) → c' k j = c k j) (h1 : c' 108 72 = X 0 3 + 1) (h2 : ∀ j, j < 20 → c' 148 j = if j = X 0 3 then b else c 148 j) : MX c' (pshX X b) := by
  obtain ⟨x0, x1, x2, x3, x4, x5, x6⟩ := h
  refine ⟨by rw [ho 108 50 (by omega), psh_0 (by decide)]; exact x0, by rw [ho 108 12 (by omega), psh_0 (by decide)]; exact x1, by rw [ho 108 10 (by omega), psh_0 (by decide)]; exact x2, by rw [psh_3]; exact h1, fun i a e => ?_, fun i a e f => ?_, fun t a e => ?_⟩
  · rw [psh_0 (by decide)] at e
    rw [ho 114 i (by omega), psh_k (by decide) (by decide)]; exact x4 i a e
  · rw [psh_3] at f
    have ep : pshX X b 2 i = if i = X 0 3 then b else X 2 i := by unfold pshX; rw [if_neg (fun q => absurd q.1 (by decide))]; simp
    rw [h2 i e, ep]
    by_cases z : i = X 0 3
    · rw [if_pos z, if_pos z]
    · rw [if_neg z, if_neg z]; exact x5 i a e (by omega)
  · rw [ho 149 t (by omega), ho 150 t (by omega), psh_k (by decide) (by decide), psh_k (by decide) (by decide)]
    obtain ⟨y1, y2, y3⟩ := x6 t a e
    exact ⟨y1, y2, fun i i0 i1 => by rw [ho 151 _ (by omega), psh_k (by omega) (by omega)]; exact y3 i i0 i1⟩
theorem m_body {H : hf} {c N I X : ct} {K : SK} {d : Nat} {Q : ct → Prop} {b : Int} (hM : MSR H c N I X) (hz : SZ N) (hX : 0 ≤ X 0 3 ∧ X 0 3 < 100) (h : ∀ c', loM c c' → MSR H c' N I (pshX X b) → Q c') : CV K (d + 1) mX9_body [(2, 108), (0, b)] c Q := by
  have x3 := hM.2.2.2.2.2.2.2.1
  have fin : ∀ c', (∀ k j, ¬ ((k = 108 ∧ j = 72) ∨ k = 148) → c' k j = c k j) → c' 108 72 = X 0 3 + 1 → (∀ j, j < 20 → c' 148 j = if j = X 0 3 then b else c 148 j) → Q c' := fun c' ho h1 h2 =>
    h c' (fun k w j => ho k j (by omega)) (MSR_misc hM (psh_0 (by decide)) (fun k j w => ho k j (by omega)) (MX_psh hM.2.2.2.2 hX.1 ho h1 h2) hz)
  refine e_X9_body b (s_X9_body_0 b ?_)
  rw [x3]
  refine ⟨⟨by omega, by omega⟩, fun z c3 h3 => fin c3 (fun k j w => by rw [h3]; unfold up2; rw [if_neg (fun q => w (Or.inl q))]) (by rw [h3, up2_self]) (fun j jl => by rw [h3, up2_ne1 (by decide), if_neg (by omega)]), fun z => ⟨⟨hX.1, by omega⟩, fun c4 h4 c6 h6 => ?_⟩⟩
  rw [show c4 108 72 = X 0 3 from by rw [h4, up2_ne1 (by decide)]; exact x3] at h6
  refine fin c6 (fun k j w => ?_) (by rw [h6, up2_self]) (fun j jl => ?_)
  · rw [h6, h4]; unfold up2; rw [if_neg (fun q => w (Or.inl q)), if_neg (fun q => w (Or.inr q.1))]
  · rw [h6, up2_ne1 (by decide), h4]
    by_cases z2 : j = X 0 3
    · rw [z2, up2_self, if_pos rfl]
    · rw [up2_ne2 z2, if_neg z2]
theorem m_gSips {H : hf} {c N I X : ct} {K : SK} {d : Nat} {Q : ct → Int → Prop} {p x : Int} (hM : MSR H c N I X) (hz : SZ N) (hX : 0 ≤ X 0 3 ∧ X 0 3 < 100) (h : ∀ c', loM c c' → MSR H c' N I (pshX X 10) → Q c' (x + p)) : CI K (d + 2) mX9_guestSips [(2, 108), (0, p), (0, x)] c Q :=
  e_X9_guestSips p x (s_X9_guestSips_0 p x (m_body (d := d) hM hz hX h))
theorem p3 {X : ct} {b : Int} (h : 0 ≤ X 0 3 ∧ X 0 3 < 90) : 0 ≤ pshX X b 0 3 ∧ pshX X b 0 3 < 100 := by rw [psh_3]; omega
theorem m_sips {H : hf} {c N I X : ct} {K : SK} {d : Nat} {Q : ct → Int → Prop} {p x : Int} (hM : MSR H c N I X) (hP : SZ N) (hp : 0 ≤ p ∧ p < N 0 10) (hX : 0 ≤ X 0 3 ∧ X 0 3 < 90) (h : ∀ c', loM c c' → MSR H c' N I (pshL X (spL (N 1 p))) → Q c' (spR (N 1 p) (N 2 p) p x)) : CI K (d + 3) mX9_sipsAct [(2, 108), (0, p), (0, x)] c Q := by
  have n6 := hM.1.1.1
  obtain ⟨⟨r1, k0, k7⟩, -⟩ := hM.1.1.2.2.2.2.2.2 p hp.1 hp.2
  have hX' : 0 ≤ X 0 3 ∧ X 0 3 < 100 := ⟨hX.1, by omega⟩
  have two : ∀ b y, spL (N 1 p) = [b, 10] → y + p = spR (N 1 p) (N 2 p) p x → CV K (d + 2) mX9_body [(2, 108), (0, b)] c (fun c3 => CI K (d + 2) mX9_guestSips [(2, 108), (0, p), (0, y)] c3 (fun c5 r6 => Q c5 r6)) := fun b y e1 e2 =>
    m_body (d := d + 1) hM hP hX' (fun c3 l3 M3 => m_gSips (d := d) M3 hP (p3 hX) (fun c5 l5 M5 => by rw [e2]; exact h c5 (l3.trans l5) (by rw [e1]; exact M5)))
  have one : spL (N 1 p) = [10] → x + p = spR (N 1 p) (N 2 p) p x → CI K (d + 2) mX9_guestSips [(2, 108), (0, p), (0, x)] c (fun c5 r6 => Q c5 r6) := fun e1 e2 =>
    m_gSips (d := d) hM hP hX' (fun c5 l5 M5 => by rw [e2]; exact h c5 l5 (by rw [e1]; exact M5))
  refine e_X9_sipsAct p x (s_X9_sipsAct_0 p x ?_)
  rw [r1]
  refine ⟨⟨hp.1, by omega⟩, ⟨by omega, by omega⟩, fun z => two 30 (x * 3) (by rw [z]; rfl) (by rw [z]; rfl), fun z => one (by rw [z]; rfl) (by rw [z]; rfl), fun z => ?_, fun z => two 30 (x * 3) (by rw [z]; rfl) (by rw [z]; rfl), fun z => ?_, fun z => one ?_ ?_⟩
  · refine m_body (d := d + 1) hM hP hX' (fun c3 l3 M3 => m_gSips (d := d) M3 hP (p3 hX) (fun c5 l5 M5 => ?_))
    have := h c5 (l3.trans l5) (by rw [z]; exact M5)
    rw [z] at this; exact this
  · refine m_body (d := d + 1) hM hP hX' (fun c3 l3 M3 => m_gSips (d := d) M3 hP (p3 hX) (fun c5 l5 M5 => ⟨⟨hp.1, by omega⟩, ?_⟩))
    rw [(M5.1.1.2.2.2.2.2.2 p hp.1 hp.2).2.1.1]
    have := h c5 (l3.trans l5) (by rw [z]; exact M5)
    rw [z] at this; exact this
  · have : N 1 p = 0 ∨ N 1 p = 1 := by omega
    rcases this with e | e <;> rw [e] <;> rfl
  · have : N 1 p = 0 ∨ N 1 p = 1 := by omega
    rcases this with e | e <;> rw [e] <;> rfl
theorem m_gChats {H : hf} {c N I X : ct} {K : SK} {d : Nat} {Q : ct → Int → Prop} {p x : Int} (hM : MSR H c N I X) (hP : SZ N) (hp : 0 ≤ p ∧ p < N 0 10) (hX : 0 ≤ X 0 3 ∧ X 0 3 < 80) (h : ∀ c', loM c c' → MSR H c' N I (pshL X (11 :: spL (N 1 p))) → Q c' (spR (N 1 p) (N 2 p) p x - N 2 p)) : CI K (d + 4) mX9_guestChats [(2, 108), (0, p), (0, x)] c Q := by
  have n6 := hM.1.1.1
  refine e_X9_guestChats p x (s_X9_guestChats_0 p x (m_body (d := d + 2) hM hP ⟨hX.1, by omega⟩ (fun c1 l1 M1 => m_sips (d := d) M1 hP hp (by rw [psh_3]; omega) (fun c3 l3 M3 => ⟨⟨hp.1, by omega⟩, ?_⟩))))
  rw [(M3.1.1.2.2.2.2.2.2 p hp.1 hp.2).2.1.1]
  exact h c3 (l1.trans l3) M3
theorem m_wChats {H : hf} {c N I X : ct} {K : SK} {d : Nat} {Q : ct → Int → Prop} {p x : Int} (hM : MSR H c N I X) (hP : SZ N) (hp : 0 ≤ p ∧ p < N 0 10) (hX : 0 ≤ X 0 3 ∧ X 0 3 < 70) (h : ∀ c', loM c c' → MSR H c' N I (pshL X (20 :: 11 :: spL (N 1 p))) → Q c' (bXor (spR (N 1 p) (N 2 p) p x - N 2 p) 6)) : CI K (d + 5) mX9_wouldChats [(2, 108), (0, p), (0, x)] c Q :=
  e_X9_wouldChats p x (s_X9_wouldChats_0 p x (m_body (d := d + 3) hM hP ⟨hX.1, by omega⟩ (fun c1 l1 M1 => m_gChats (d := d) M1 hP hp (by rw [psh_3]; omega) (fun c3 l3 M3 => h c3 (l1.trans l3) M3))))
theorem m_chats {H : hf} {c N I X : ct} {K : SK} {d : Nat} {Q : ct → Int → Prop} {p x : Int} (hM : MSR H c N I X) (hP : SZ N) (hp : 0 ≤ p ∧ p < N 0 10) (hX : 0 ≤ X 0 3 ∧ X 0 3 < 60) (h : ∀ c', loM c c' → MSR H c' N I (pshL X (chL (N 1 p))) → Q c' (chR (N 1 p) (N 2 p) p x)) : CI K (d + 6) mX9_chatsAct [(2, 108), (0, p), (0, x)] c Q := by
  have n6 := hM.1.1.1
  obtain ⟨⟨r1, k0, k7⟩, -⟩ := hM.1.1.2.2.2.2.2.2 p hp.1 hp.2
  refine e_X9_chatsAct p x (s_X9_chatsAct_0 p x ?_)
  rw [r1]
  refine ⟨⟨hp.1, by omega⟩, ⟨by omega, by omega⟩, fun z => m_wChats (d := d) hM hP hp ⟨hX.1, by omega⟩ (fun c3 l3 M3 => ?_), fun z => m_body (d := d + 4) hM hP ⟨hX.1, by omega⟩ (fun c1 l1 M1 => m_wChats (d := d) M1 hP hp (by rw [psh_3]; omega) (fun c3 l3 M3 => ?_)), fun z => m_body (d := d + 4) hM hP ⟨hX.1, by omega⟩ (fun c1 l1 M1 => m_gChats (d := d + 1) M1 hP hp (by rw [psh_3]; omega) (fun c3 l3 M3 => m_gSips (d := d + 3) M3 hP ?_ (fun c5 l5 M5 => ?_))), fun z => m_gChats (d := d + 1) hM hP hp ⟨hX.1, by omega⟩ (fun c3 l3 M3 => ?_)⟩
  · have := h c3 l3 (by rw [z] at M3 ⊢; exact M3)
    rw [z] at this ⊢; exact this
  · have := h c3 (l1.trans l3) (by rw [z] at M3 ⊢; exact M3)
    rw [z] at this ⊢; exact this
  · rw [z, pshL_3, psh_3]
    simp only [spL]
    simp; omega
  · have e : pshX (pshL (pshX X 70) (11 :: spL (N 1 p))) 10 = pshL X (chL (N 1 p)) := by rw [z]; rfl
    have := h c5 ((l1.trans l3).trans l5) (by rw [← e]; exact M5)
    rw [z] at this ⊢; exact this
  · have e1 : chL (N 1 p) = 11 :: spL (N 1 p) := by unfold chL; rw [if_neg z.1, if_neg z.2.1, if_neg z.2.2]
    have e2 : chR (N 1 p) (N 2 p) p x = spR (N 1 p) (N 2 p) p x - N 2 p := by unfold chR; rw [if_neg z.1, if_neg z.2.1, if_neg z.2.2]
    rw [← e2]
    exact h c3 l3 (by rw [e1]; exact M3)
theorem m_gTells {H : hf} {c N I X : ct} {K : SK} {d : Nat} {Q : ct → Int → Prop} {p x : Int} (hM : MSR H c N I X) (hP : SZ N) (hp : 0 ≤ p ∧ p < N 0 10) (hX : 0 ≤ X 0 3 ∧ X 0 3 < 50) (h : ∀ c', loM c c' → MSR H c' N I (pshL X (12 :: chL (N 1 p))) → Q c' (chR (N 1 p) (N 2 p) p x * 2)) : CI K (d + 7) mX9_guestTells [(2, 108), (0, p), (0, x)] c Q :=
  e_X9_guestTells p x (s_X9_guestTells_0 p x (m_body (d := d + 5) hM hP ⟨hX.1, by omega⟩ (fun c1 l1 M1 => m_chats (d := d) M1 hP hp (by rw [psh_3]; omega) (fun c3 l3 M3 => h c3 (l1.trans l3) M3))))
theorem m_tells {H : hf} {c N I X : ct} {K : SK} {d : Nat} {Q : ct → Int → Prop} {p x : Int} (hM : MSR H c N I X) (hP : SZ N) (hp : 0 ≤ p ∧ p < N 0 10) (hX : 0 ≤ X 0 3 ∧ X 0 3 < 40) (h : ∀ c', loM c c' → MSR H c' N I (pshL X (tlL (N 1 p))) → Q c' (tlR (N 1 p) (N 2 p) p x)) : CI K (d + 8) mX9_tellsAct [(2, 108), (0, p), (0, x)] c Q := by
  have n6 := hM.1.1.1
  obtain ⟨⟨r1, k0, k7⟩, -⟩ := hM.1.1.2.2.2.2.2.2 p hp.1 hp.2
  have lc := len_ch (N 1 p)
  have two : (N 1 p = 3 ∨ N 1 p = 6) → CV K (d + 7) mX9_body [(2, 108), (0, 40)] c (fun c3 => CI K (d + 7) mX9_guestTells [(2, 108), (0, p), (0, x)] c3 (fun c5 r6 => CI K (d + 7) mX9_chatsAct [(2, 108), (0, p), (0, 1)] c5 (fun c7 r8 => Q c7 (r6 + r8)))) := fun z => by
    refine m_body (d := d + 6) hM hP ⟨hX.1, by omega⟩ (fun c1 l1 M1 => m_gTells (d := d) M1 hP hp (by rw [psh_3]; omega) (fun c3 l3 M3 => m_chats (d := d + 1) M3 hP hp ?_ (fun c5 l5 M5 => ?_)))
    · rw [pshL_3, psh_3]; simp only [List.length_cons]; omega
    · have e : pshL (pshL (pshX X 40) (12 :: chL (N 1 p))) (chL (N 1 p)) = pshL X (tlL (N 1 p)) := by
        unfold tlL
        rw [if_pos z, ← pshL_app]
        rfl
      have e2 : chR (N 1 p) (N 2 p) p x * 2 + chR (N 1 p) (N 2 p) p 1 = tlR (N 1 p) (N 2 p) p x := by unfold tlR; rw [if_pos z]
      rw [e2]
      exact h c5 ((l1.trans l3).trans l5) (by rw [← e]; exact M5)
  have one : ¬ (N 1 p = 3 ∨ N 1 p = 6) → ¬ N 1 p = 5 → CI K (d + 7) mX9_guestTells [(2, 108), (0, p), (0, x)] c (fun c5 r6 => Q c5 r6) := fun z z2 =>
    m_gTells (d := d) hM hP hp ⟨hX.1, by omega⟩ (fun c3 l3 M3 => by
      have e1 : tlL (N 1 p) = 12 :: chL (N 1 p) := by unfold tlL; rw [if_neg z, if_neg z2]
      have e2 : tlR (N 1 p) (N 2 p) p x = chR (N 1 p) (N 2 p) p x * 2 := by unfold tlR; rw [if_neg z, if_neg z2]
      rw [← e2]
      exact h c3 l3 (by rw [e1]; exact M3))
  refine e_X9_tellsAct p x (s_X9_tellsAct_0 p x ?_)
  rw [r1]
  refine ⟨⟨hp.1, by omega⟩, ⟨by omega, by omega⟩, fun z => two (Or.inl z), fun z => one (by omega) (by omega), fun z => ?_, fun z => two (Or.inr z), fun z => one (by omega) (by omega)⟩
  refine m_body (d := d + 6) hM hP ⟨hX.1, by omega⟩ (fun c1 l1 M1 => m_gTells (d := d) M1 hP hp (by rw [psh_3]; omega) (fun c3 l3 M3 => ?_))
  have e1 : tlL (N 1 p) = 60 :: 12 :: chL (N 1 p) := by unfold tlL; rw [if_neg (by omega), if_pos z]
  have e2 : tlR (N 1 p) (N 2 p) p x = chR (N 1 p) (N 2 p) p (x - p) * 2 := by unfold tlR; rw [if_neg (by omega), if_pos z]
  rw [← e2]
  exact h c3 (l1.trans l3) (by rw [e1]; exact M3)
theorem n_act {H : hf} {c N I X : ct} {K : SK} {d : Nat} {Q : ct → Int → Prop} (hM : MSR H c N I X) (hP : PU N I X) {p a x : Int} (hp : ir p) (ha : ir a) (h0 : ∀ c', ¬ (isG N p ∧ 0 ≤ a ∧ a < 3) → loM c c' → MSR H c' N I (x0X X 3 0) → Q c' 0) (h1 : ∀ c', isG N p → 0 ≤ a → a < 3 → loM c c' → MSR H c' N I (pshL (x0X X 3 0) (acL (N 1 p) a)) → Q c' (acR (N 1 p) (N 2 p) p a x)) : CI K (d + 9) mX9_act [(2, 108), (0, p), (0, a), (0, x)] c Q := by
  have hz := hP.1.2.2.1
  refine e_X9_act p a x (s_X9_act_0 p a x (fun c1 e1 => ?_))
  have fr : ∀ k j, ¬ (k = 108 ∧ j = 72) → c1 k j = c k j := fun k j w => by rw [e1]; unfold up2; rw [if_neg w]
  have l1 : loM c c1 := fun k w j => fr k j (by omega)
  have M1 : MSR H c1 N I (x0X X 3 0) := by
    obtain ⟨x0, x1, x2, x3, x4, x5, x6⟩ := hM.2.2.2.2
    refine MSR_misc hM (x0_k (Or.inr (by decide))) (fun k j w => fr k j (by omega)) ⟨by rw [fr 108 50 (by omega), x0_k (Or.inr (by decide))]; exact x0, by rw [fr 108 12 (by omega), x0_k (Or.inr (by decide))]; exact x1, by rw [fr 108 10 (by omega), x0_k (Or.inr (by decide))]; exact x2, by rw [e1, up2_self, x0_s], fun i a b => ?_, fun i a b e => ?_, fun t a b => ?_⟩ hz
    · rw [x0_k (Or.inr (by decide))] at b
      rw [fr 114 i (by omega), x0_k (Or.inl (by decide))]; exact x4 i a b
    · rw [x0_s] at e; omega
    · rw [fr 149 t (by omega), fr 150 t (by omega), x0_k (Or.inl (by decide)), x0_k (Or.inl (by decide))]
      obtain ⟨y1, y2, y3⟩ := x6 t a b
      exact ⟨y1, y2, fun i a b => by rw [fr 151 _ (by omega), x0_k (Or.inl (by omega))]; exact y3 i a b⟩
  have s0 : x0X X 3 0 0 3 = 0 := x0_s
  refine m_isGuest (d := d + 6) hp M1.1.1.1 (fun z => bz (h0 c1 (fun q => z q.1) l1 M1)) (fun g1 g2 => bo (m_in (d := d + 7) ha ir01.1 ⟨by decide, by decide⟩ (fun z => bz (h0 c1 (fun q => z (by omega)) l1 M1)) (fun a0 a2 => bo ⟨fun z => ?_, fun z => ⟨ha, fun z2 => ?_, fun z2 => ⟨ha, ?_⟩⟩⟩)))
  · subst z
    exact m_sips (d := d + 5) M1 hz ⟨g1, g2⟩ (by omega) (fun c' l' M' => h1 c' ⟨g1, g2⟩ (by decide) (by decide) (l1.trans l') M')
  · subst z2
    exact m_chats (d := d + 2) M1 hz ⟨g1, g2⟩ (by omega) (fun c' l' M' => h1 c' ⟨g1, g2⟩ (by decide) (by decide) (l1.trans l') M')
  · have : a = 2 := by omega
    subst this
    exact m_tells (d := d) M1 hz ⟨g1, g2⟩ (by omega) (fun c' l' M' => h1 c' ⟨g1, g2⟩ (by decide) (by decide) (l1.trans l') M')
