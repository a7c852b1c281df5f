/-! CONTRACTS: the public calls, fourth lot -/
theorem mv_0 {G : ct} {g s j : Int} : mvG G g s 0 j = G 0 j := rfl
def chI (H : hf) (N : ct) (one : Int) : Nat → Int → Int → Int → Int × Int
  | 0, _, f, g => (f, g)
  | n + 1, o, f, g => if allG H (mvG N one (N 3 o)) (N 0 12) ≤ g then chI H N one n (o + 1) f g else chI H N one n (o + 1) (10 * one + o) (allG H (mvG N one (N 3 o)) (N 0 12))
def chO (H : hf) (N : ct) : Nat → Int → Int → Int → Int
  | 0, _, f, _ => f
  | n + 1, i, f, g => chO H N n (i + 1) (chI H N i n (i + 1) f g).1 (chI H N i n (i + 1) f g).2
theorem o_change {H : hf} {N I X : ct} {K : SK} {d : Nat} {c : ct} {Q : ct → Int → Prop} (hC : CSR H c N I X) (h : ∀ c', loK c c' → CSR H c' N I X → Q c' (chO H N (N 0 10).toNat 0 (-5) (allG H N (N 0 12)))) : CI K (d + 5) mX8_change [(2, 0)] c Q := by
  have hn := hC.n
  have inner : ∀ (one : Int), 0 ≤ one → one < N 0 10 → ∀ (n : Nat) (o f g : Int) (c1 : ct), o = N 0 10 - n → 0 ≤ o → ir g → CSR H c1 N I X → loK c c1 → (∀ c2, CSR H c2 N I X → loK c c2 → ir (chI H N one n o f g).2 → WI K (d + 5) mX8_change 16 [(2, 0), (0, (chI H N one n o f g).1), (0, (chI H N one n o f g).2), (0, one + 1), (9, 0), (9, 0)] [] c2 Q) → WI K (d + 5) mX8_change 35 [(2, 0), (0, f), (0, g), (0, one), (0, o), (9, 0)] [] c1 Q := by
    intro one o0 o1 n
    induction n with
    | zero =>
      intro o f g c1 ho h0 hg h1 hl hk
      have e := h1.n.1
      refine s_X8_change_35 f g one o ?_
      rw [e]
      exact ⟨⟨⟨by omega, by omega⟩, ⟨by omega, by omega⟩⟩, fun _ => hk c1 h1 hl hg, fun z => absurd (by omega) z⟩
    | succ n ih =>
      intro o f g c1 ho h0 hg h1 hl hk
      have e := h1.n.1
      refine s_X8_change_35 f g one o ?_
      rw [e]
      refine ⟨⟨⟨by omega, by omega⟩, ⟨by omega, by omega⟩⟩, fun z => absurd z (by omega), fun _ => ?_⟩
      refine g_copyFrom (d := d + 3) t59 t24 (by decide) h1.now (fun c3 p3 _ r3 => ⟨⟨h0, by omega⟩, ?_⟩)
      have hs := (RT_p r3 (p := o) ⟨h0, by omega⟩).2.2.1
      have e3 : c3 62 o = N 3 o := (r3.2.2.2.2.1 o h0 (by omega)).1.2.2.1
      rw [e3]
      refine g_moveTo t59 r3 ⟨o0, o1⟩ hs (fun c6 p6 _ r6 => g_fondOfAll t59 r6 ?_)
      have hb := allG_r r6
      rw [mv_0] at hb ⊢
      have p36 := p3.trans p6
      have h6 := CSR_tr h1 (tr59 p36)
      have l6 := hl.trans (lo59 p36)
      rw [chI] at hk
      refine ⟨⟨⟨by omega, by omega⟩, hg⟩, fun le => ih (o + 1) f g c6 (by omega) (by omega) hg h6 l6 ?_, fun gt => ih (o + 1) _ _ c6 (by omega) (by omega) ⟨by omega, by omega⟩ h6 l6 ?_⟩
      · rw [if_pos le] at hk; exact hk
      · rw [if_neg gt] at hk; exact hk
  have outer : ∀ (n : Nat) (i f g : Int) (c1 : ct), i = N 0 10 - n → 0 ≤ i → ir g → CSR H c1 N I X → loK c c1 → (∀ c2, CSR H c2 N I X → loK c c2 → Q c2 (chO H N n i f g)) → WI K (d + 5) mX8_change 16 [(2, 0), (0, f), (0, g), (0, i), (9, 0), (9, 0)] [] c1 Q := by
    intro n
    induction n with
    | zero =>
      intro i f g c1 hi h0 hg h1 hl hk
      have e := h1.n.1
      refine s_X8_change_16 f g i ?_
      rw [e]
      exact ⟨⟨⟨by omega, by omega⟩, ⟨by omega, by omega⟩⟩, fun _ => hk c1 h1 hl, fun z => absurd (by omega) z⟩
    | succ n ih =>
      intro i f g c1 hi h0 hg h1 hl hk
      have e := h1.n.1
      refine s_X8_change_16 f g i ?_
      rw [e]
      refine ⟨⟨⟨by omega, by omega⟩, ⟨by omega, by omega⟩⟩, fun z => absurd z (by omega), fun _ => ?_⟩
      refine inner i h0 (by omega) n (i + 1) f g c1 (by omega) (by omega) hg h1 hl (fun c2 h2 l2 hg2 => ih (i + 1) _ _ c2 (by omega) (by omega) hg2 h2 l2 (fun c3 h3 l3 => ?_))
      have := hk c3 h3 l3
      rw [chO] at this
      exact this
  have hb := allG_r hC.now
  exact e_X8_change (s_X8_change_0 (g_fondOfAll t24 hC.now (outer (N 0 10).toNat 0 (-5) _ c (by omega) (by omega) ⟨by omega, by omega⟩ hC loK.rf (fun c2 h2 l2 => h c2 l2 h2))))
def stR (H : hf) (N : ct) (p : Int) : Nat → Int → Int → Int → Int
  | 0, _, f, _ => f
  | n + 1, s, f, g => if s = 0 ∨ ¬ fdG H (mvG N p s) (N 0 12) p ≤ g then stR H N p n (s + 1) s (fdG H (mvG N p s) (N 0 12) p) else stR H N p n (s + 1) f g
theorem o_seat {H : hf} {N I X : ct} {K : SK} {d : Nat} {c : ct} {Q : ct → Int → Prop} (hC : CSR H c N I X) {p : Int} (hp : ir p) (h0 : ¬ isG N p → Q c (-1)) (h1 : ∀ c', isG N p → loK c c' → CSR H c' N I X → Q c' (stR H N p 6 0 0 0)) : CI K (d + 4) mX8_seat [(2, 0), (0, p)] c Q := by
  have hn := hC.n
  have loop : isG N p → ∀ (n : Nat) (s f g : Int) (c1 : ct), s = 6 - n → 0 ≤ s → ir g → CSR H c1 N I X → loK c c1 → (∀ c2, CSR H c2 N I X → loK c c2 → Q c2 (stR H N p n s f g)) → WI K (d + 4) mX8_seat 17 [(2, 0), (0, p), (0, f), (0, g), (0, s), (9, 0)] [] c1 Q := by
    intro hg n
    induction n with
    | zero =>
      intro s f g c1 hs s0 irg h1 hl hk
      exact s_X8_seat_17 p f g s ⟨⟨by omega, by omega⟩, fun _ => hk c1 h1 hl, fun z => absurd (by omega) z⟩
    | succ n ih =>
      intro s f g c1 hs s0 irg h1 hl hk
      refine s_X8_seat_17 p f g s ⟨⟨by omega, by omega⟩, fun z => absurd z (by omega), fun _ => ?_⟩
      refine g_copyFrom (d := d + 2) t59 t24 (by decide) h1.now (fun c3 p3 _ r3 => ?_)
      refine g_moveTo (d := d + 1) t59 r3 hg ⟨s0, by omega⟩ (fun c6 p6 _ r6 => g_fondOf t59 r6 hg ?_)
      have hb := fdG_r r6 hg
      rw [mv_0] at hb ⊢
      have p36 := p3.trans p6
      have h6 := CSR_tr h1 (tr59 p36)
      have l6 := hl.trans (lo59 p36)
      rw [stR] at hk
      refine ⟨fun z => ih (s + 1) _ _ c6 (by omega) (by omega) ⟨by omega, by omega⟩ h6 l6 ?_, fun z => ⟨⟨by omega, by omega⟩, ⟨⟨by omega, by omega⟩, irg⟩, fun le => ih (s + 1) f g c6 (by omega) (by omega) irg h6 l6 ?_, fun gt => ih (s + 1) _ _ c6 (by omega) (by omega) ⟨by omega, by omega⟩ h6 l6 ?_⟩⟩
      · rw [if_pos (Or.inl z)] at hk; exact hk
      · rw [if_neg (by omega)] at hk; exact hk
      · rw [if_pos (Or.inr gt)] at hk; exact hk
  refine e_X8_seat p (s_X8_seat_0 p (g_isGuest hC p hp (fun z => ⟨fun _ => h0 z, fun z2 => absurd rfl z2⟩) (fun g1 g2 => ⟨fun z => absurd z one_ne, fun _ => ⟨ir01.2, ?_⟩⟩)))
  exact loop ⟨g1, g2⟩ 6 0 0 0 c (by decide) (by decide) ir01.1 hC loK.rf (fun c2 h2 l2 => h1 c2 ⟨g1, g2⟩ l2 h2)
theorem CSR_rows {H : hf} {c c' N N' I X : ct} (h : CSR H c N I X) (ho : ∀ k, (k < 12 ∨ 23 < k) → ∀ j, c' k j = c k j) (hk : ∀ k, 1 ≤ k → k ≤ 19 → ∀ j, N' k j = N k j) (h0 : ∀ j, j < 20 → N' 0 j = N 0 j) (h1 : RW c' 12 5 N' 20) (h2 : RW c' 16 10 N' 24) (h3 : RW c' 20 8 N' 28) (hI : INV N') : CSR H c' N' I X := by
  have hE := h.1
  refine CSR_now h (fun k a j => ho k (by omega) j) ⟨?_, ZB_congr hE.2.1 (fun k a b j => ho k (by omega) j), h1, h2, h3⟩ hI (by rw [h0 13 (by decide)]; exact h.2.2.2.2.1.1)
  refine RT_G (RT_tab hE.1 (fun k a b j => ho k (by omega) j) (fun k a b j => ho k (by have := hou_in (EV_hou hE) a b; omega) j)) (fun j a b => h0 j (by omega)) (fun p _ _ => ⟨⟨hk _ (by decide) (by decide) _, hk _ (by decide) (by decide) _, hk _ (by decide) (by decide) _, hk _ (by decide) (by decide) _, hk _ (by decide) (by decide) _, hk _ (by decide) (by decide) _⟩, fun i _ _ => hk _ (by decide) (by decide) _⟩)
theorem ad_k {G : ct} {b x y z k j : Int} (h : k ≠ b + 1) (h2 : k ≠ b + 2) (h3 : k ≠ b + 3) (h0 : k ≠ 0) : adG G b x y z k j = G k j := by
  unfold adG; rw [if_neg (fun q => h0 q.1)]; split
  · first | rfl | rw [if_neg h, if_neg h2, if_neg h3]
  · rfl
theorem ad_0 {G : ct} {b x y z j : Int} (hb : 1 ≤ b) (h : j ≠ b) : adG G b x y z 0 j = G 0 j := by
  unfold adG; rw [if_neg (fun q => h q.2)]; split
  · rw [if_neg (by omega), if_neg (by omega), if_neg (by omega)]
  · rfl
theorem ad_n {G : ct} {b x y z : Int} : adG G b x y z 0 b = G 0 b + 1 := by simp [adG]
theorem ad_r {G : ct} {b x y z i : Int} (hb : 1 ≤ b) : adG G b x y z (b + 1) i = (if i = G 0 b then x else G (b + 1) i) ∧ adG G b x y z (b + 2) i = (if i = G 0 b then y else G (b + 2) i) ∧ adG G b x y z (b + 3) i = if i = G 0 b then z else G (b + 3) i := by
  refine ⟨?_, ?_, ?_⟩
  · unfold adG; rw [if_neg (show ¬ (b + 1 = 0 ∧ i = b) by omega), if_pos (show b + 1 = b + 1 from rfl)]
  · unfold adG; rw [if_neg (show ¬ (b + 2 = 0 ∧ i = b) by omega), if_neg (show ¬ (b + 2 = b + 1) by omega), if_pos (show b + 2 = b + 2 from rfl)]
  · unfold adG; rw [if_neg (show ¬ (b + 3 = 0 ∧ i = b) by omega), if_neg (show ¬ (b + 3 = b + 1) by omega), if_neg (show ¬ (b + 3 = b + 2) by omega), if_pos (show b + 3 = b + 3 from rfl)]
theorem sz_k {G : ct} {b n k j : Int} (h : k ≠ 0) : szG G b n k j = G k j := by unfold szG; rw [if_neg (fun q => h q.1)]
theorem sz_0 {G : ct} {b n j : Int} (h : j ≠ b) : szG G b n 0 j = G 0 j := by unfold szG; rw [if_neg (fun q => h q.2)]
theorem sz_n {G : ct} {b n : Int} : szG G b n 0 b = n := by simp [szG]
theorem INV_sz {G : ct} {b : Int} (h : INV G) (hb : b = 20 ∨ b = 24 ∨ b = 28) : INV (szG G b 0) := by
  obtain ⟨h1, h2, h3, h4⟩ := h
  unfold INV
  rw [sz_0 (j := 12) (by omega), sz_0 (j := 10) (by omega)]
  simp only [sz_k (G := G) (b := b) (n := 0) (show (21 : Int) ≠ 0 by decide), sz_k (G := G) (b := b) (n := 0) (show (22 : Int) ≠ 0 by decide), sz_k (G := G) (b := b) (n := 0) (show (23 : Int) ≠ 0 by decide), sz_k (G := G) (b := b) (n := 0) (show (25 : Int) ≠ 0 by decide), sz_k (G := G) (b := b) (n := 0) (show (26 : Int) ≠ 0 by decide), sz_k (G := G) (b := b) (n := 0) (show (29 : Int) ≠ 0 by decide), sz_k (G := G) (b := b) (n := 0) (show (30 : Int) ≠ 0 by decide)]
  rcases hb with rfl | rfl | rfl
  · rw [sz_n, sz_0 (j := 24) (by decide), sz_0 (j := 28) (by decide)]
    exact ⟨h1, fun i a b => by omega, h3, h4⟩
  · rw [sz_n, sz_0 (j := 20) (by decide), sz_0 (j := 28) (by decide)]
    exact ⟨h1, h2, fun i a b => by omega, h4⟩
  · rw [sz_n, sz_0 (j := 20) (by decide), sz_0 (j := 24) (by decide)]
    exact ⟨h1, h2, h3, fun i a b => by omega⟩
theorem rr1 : isRow 12 5 := Or.inl ⟨Or.inl rfl, rfl⟩
theorem rr2 : isRow 16 10 := Or.inr (Or.inl ⟨Or.inl rfl, rfl⟩)
theorem rr3 : isRow 20 8 := Or.inr (Or.inr ⟨Or.inl rfl, rfl⟩)
theorem o_empty {H : hf} {N I X : ct} {K : SK} {d : Nat} {c : ct} {Q : ct → Int → Prop} (hC : CSR H c N I X) {t b : Int} {nt : Nat} (htb : (t = 12 ∧ nt = 5 ∧ b = 20) ∨ (t = 16 ∧ nt = 10 ∧ b = 24) ∨ (t = 20 ∧ nt = 8 ∧ b = 28)) (h : ∀ c', loK c c' → CSR H c' (szG N b 0) I X → Q c' 0) : CI K (d + 1) mX5_empty [(2, t)] c Q := by
  obtain ⟨-, -, s1, s2, s3⟩ := hC.1
  have s1 : RW c 12 5 N 20 := s1
  have s2 : RW c 16 10 N 24 := s2
  have s3 : RW c 20 8 N 28 := s3
  have hI := INV_sz (b := b) hC.2.2.1.1 (by omega)
  have hk : ∀ k, 1 ≤ k → k ≤ 19 → ∀ j, szG N b 0 k j = N k j := fun k a _ j => sz_k (by omega)
  have h0 : ∀ j, j < 20 → szG N b 0 0 j = N 0 j := fun j a => sz_0 (by omega)
  rcases htb with ⟨rfl, rfl, rfl⟩ | ⟨rfl, rfl, rfl⟩ | ⟨rfl, rfl, rfl⟩
  · refine g_empty rr1 s1 (fun c' ho hR => h c' (fun k a j => ho k (by omega) j) (CSR_rows hC (fun k a j => ho k (by omega) j) hk h0 hR ?_ ?_ hI))
    · exact RW_G (RW_congr s2 (fun k a b j => ho k (by omega) j)) (sz_0 (by decide)) (fun i _ _ => ⟨sz_k (by decide), sz_k (by decide), sz_k (by decide)⟩)
    · exact RW_G (RW_congr s3 (fun k a b j => ho k (by omega) j)) (sz_0 (by decide)) (fun i _ _ => ⟨sz_k (by decide), sz_k (by decide), sz_k (by decide)⟩)
  · refine g_empty rr2 s2 (fun c' ho hR => h c' (fun k a j => ho k (by omega) j) (CSR_rows hC (fun k a j => ho k (by omega) j) hk h0 ?_ hR ?_ hI))
    · exact RW_G (RW_congr s1 (fun k a b j => ho k (by omega) j)) (sz_0 (by decide)) (fun i _ _ => ⟨sz_k (by decide), sz_k (by decide), sz_k (by decide)⟩)
    · exact RW_G (RW_congr s3 (fun k a b j => ho k (by omega) j)) (sz_0 (by decide)) (fun i _ _ => ⟨sz_k (by decide), sz_k (by decide), sz_k (by decide)⟩)
  · refine g_empty rr3 s3 (fun c' ho hR => h c' (fun k a j => ho k (by omega) j) (CSR_rows hC (fun k a j => ho k (by omega) j) hk h0 ?_ ?_ hR hI))
    · exact RW_G (RW_congr s1 (fun k a b j => ho k (by omega) j)) (sz_0 (by decide)) (fun i _ _ => ⟨sz_k (by decide), sz_k (by decide), sz_k (by decide)⟩)
    · exact RW_G (RW_congr s2 (fun k a b j => ho k (by omega) j)) (sz_0 (by decide)) (fun i _ _ => ⟨sz_k (by decide), sz_k (by decide), sz_k (by decide)⟩)
theorem o_add {H : hf} {N I X : ct} {K : SK} {d : Nat} {c : ct} {Q : ct → Int → Prop} (hC : CSR H c N I X) {t b x y z : Int} {nt : Nat} (htb : (t = 12 ∧ nt = 5 ∧ b = 20) ∨ (t = 16 ∧ nt = 10 ∧ b = 24) ∨ (t = 20 ∧ nt = 8 ∧ b = 28)) (hI : INV (adG N b x y z)) (h0 : N 0 b = nt → Q c (-4)) (h : ∀ c', N 0 b < nt → loK c c' → CSR H c' (adG N b x y z) I X → Q c' (N 0 b + 1)) : CI K (d + 1) mX5_add [(2, t), (0, x), (0, y), (0, z)] c Q := by
  obtain ⟨-, -, s1, s2, s3⟩ := hC.1
  have s1 : RW c 12 5 N 20 := s1
  have s2 : RW c 16 10 N 24 := s2
  have s3 : RW c 20 8 N 28 := s3
  have hk : ∀ k, 1 ≤ k → k ≤ 19 → ∀ j, adG N b x y z k j = N k j := fun k a _ j => ad_k (by omega) (by omega) (by omega) (by omega)
  have hz : ∀ j, j < 20 → adG N b x y z 0 j = N 0 j := fun j a => ad_0 (by omega) (by omega)
  rcases htb with ⟨rfl, rfl, rfl⟩ | ⟨rfl, rfl, rfl⟩ | ⟨rfl, rfl, rfl⟩
  · refine g_add rr1 (by decide) s1 h0 (fun c' lt ho hR => h c' lt (fun k a j => ho k (by omega) j) (CSR_rows hC (fun k a j => ho k (by omega) j) hk hz hR ?_ ?_ hI))
    · exact RW_G (RW_congr s2 (fun k a b j => ho k (by omega) j)) (ad_0 (by decide) (by decide)) (fun i _ _ => ⟨ad_k (by decide) (by decide) (by decide) (by decide), ad_k (by decide) (by decide) (by decide) (by decide), ad_k (by decide) (by decide) (by decide) (by decide)⟩)
    · exact RW_G (RW_congr s3 (fun k a b j => ho k (by omega) j)) (ad_0 (by decide) (by decide)) (fun i _ _ => ⟨ad_k (by decide) (by decide) (by decide) (by decide), ad_k (by decide) (by decide) (by decide) (by decide), ad_k (by decide) (by decide) (by decide) (by decide)⟩)
  · refine g_add rr2 (by decide) s2 h0 (fun c' lt ho hR => h c' lt (fun k a j => ho k (by omega) j) (CSR_rows hC (fun k a j => ho k (by omega) j) hk hz ?_ hR ?_ hI))
    · exact RW_G (RW_congr s1 (fun k a b j => ho k (by omega) j)) (ad_0 (by decide) (by decide)) (fun i _ _ => ⟨ad_k (by decide) (by decide) (by decide) (by decide), ad_k (by decide) (by decide) (by decide) (by decide), ad_k (by decide) (by decide) (by decide) (by decide)⟩)
    · exact RW_G (RW_congr s3 (fun k a b j => ho k (by omega) j)) (ad_0 (by decide) (by decide)) (fun i _ _ => ⟨ad_k (by decide) (by decide) (by decide) (by decide), ad_k (by decide) (by decide) (by decide) (by decide), ad_k (by decide) (by decide) (by decide) (by decide)⟩)
  · refine g_add rr3 (by decide) s3 h0 (fun c' lt ho hR => h c' lt (fun k a j => ho k (by omega) j) (CSR_rows hC (fun k a j => ho k (by omega) j) hk hz ?_ ?_ hR hI))
    · exact RW_G (RW_congr s1 (fun k a b j => ho k (by omega) j)) (ad_0 (by decide) (by decide)) (fun i _ _ => ⟨ad_k (by decide) (by decide) (by decide) (by decide), ad_k (by decide) (by decide) (by decide) (by decide), ad_k (by decide) (by decide) (by decide) (by decide)⟩)
    · exact RW_G (RW_congr s2 (fun k a b j => ho k (by omega) j)) (ad_0 (by decide) (by decide)) (fun i _ _ => ⟨ad_k (by decide) (by decide) (by decide) (by decide), ad_k (by decide) (by decide) (by decide) (by decide), ad_k (by decide) (by decide) (by decide) (by decide)⟩)
theorem INV_ad {G : ct} {b x y z : Int} (h : INV G) (hb : (b = 20 ∧ (0 ≤ x ∧ x < G 0 10) ∧ (y = 0 ∨ y = 1) ∧ 0 ≤ z ∧ z ≤ 20) ∨ (b = 24 ∧ (0 ≤ x ∧ x ≤ 3) ∧ ((x = 1 ∨ x = 2) → 0 ≤ y ∧ y < G 0 10) ∧ (x = 3 → 0 ≤ y ∧ y < 6)) ∨ (b = 28 ∧ (0 ≤ x ∧ x < G 0 10) ∧ 0 ≤ y ∧ y < 6)) : INV (adG G b x y z) := by
  obtain ⟨h1, h2, h3, h4⟩ := h
  have z12 : adG G b x y z 0 12 = G 0 12 := ad_0 (by omega) (by omega)
  have z10 : adG G b x y z 0 10 = G 0 10 := ad_0 (by omega) (by omega)
  unfold INV
  rw [z12, z10]
  have sm : ∀ k j, k ≠ b + 1 → k ≠ b + 2 → k ≠ b + 3 → k ≠ 0 → adG G b x y z k j = G k j := fun k j a1 a2 a3 a4 => ad_k a1 a2 a3 a4
  rcases hb with ⟨rfl, a, b, d⟩ | ⟨rfl, a, b, d⟩ | ⟨rfl, a, d⟩
  · rw [ad_n, ad_0 (j := 24) (by decide) (by decide), ad_0 (j := 28) (by decide) (by decide)]
    refine ⟨h1, fun i i1 i2 => ?_, fun i i1 i2 => by rw [sm 25 i (by decide) (by decide) (by decide) (by decide), sm 26 i (by decide) (by decide) (by decide) (by decide)]; exact h3 i i1 i2, fun i i1 i2 => by rw [sm 29 i (by decide) (by decide) (by decide) (by decide), sm 30 i (by decide) (by decide) (by decide) (by decide)]; exact h4 i i1 i2⟩
    obtain ⟨e1, e2, e3⟩ := ad_r (G := G) (b := 20) (x := x) (y := y) (z := z) (i := i) (by decide)
    have e1 : adG G 20 x y z 21 i = _ := e1
    have e2 : adG G 20 x y z 22 i = _ := e2
    have e3 : adG G 20 x y z 23 i = _ := e3
    rw [e1, e2, e3]
    by_cases q : i = G 0 20
    · rw [if_pos q, if_pos q, if_pos q]; exact ⟨a, b, d⟩
    · rw [if_neg q, if_neg q, if_neg q]; exact h2 i i1 (by omega)
  · rw [ad_n, ad_0 (j := 20) (by decide) (by decide), ad_0 (j := 28) (by decide) (by decide)]
    refine ⟨h1, fun i i1 i2 => by rw [sm 21 i (by decide) (by decide) (by decide) (by decide), sm 22 i (by decide) (by decide) (by decide) (by decide), sm 23 i (by decide) (by decide) (by decide) (by decide)]; exact h2 i i1 i2, fun i i1 i2 => ?_, fun i i1 i2 => by rw [sm 29 i (by decide) (by decide) (by decide) (by decide), sm 30 i (by decide) (by decide) (by decide) (by decide)]; exact h4 i i1 i2⟩
    obtain ⟨e1, e2, -⟩ := ad_r (G := G) (b := 24) (x := x) (y := y) (z := z) (i := i) (by decide)
    have e1 : adG G 24 x y z 25 i = _ := e1
    have e2 : adG G 24 x y z 26 i = _ := e2
    rw [e1, e2]
    by_cases q : i = G 0 24
    · simp only [if_pos q]; exact ⟨a, b, d⟩
    · simp only [if_neg q]; exact h3 i i1 (by omega)
  · rw [ad_n, ad_0 (j := 20) (by decide) (by decide), ad_0 (j := 24) (by decide) (by decide)]
    refine ⟨h1, fun i i1 i2 => by rw [sm 21 i (by decide) (by decide) (by decide) (by decide), sm 22 i (by decide) (by decide) (by decide) (by decide), sm 23 i (by decide) (by decide) (by decide) (by decide)]; exact h2 i i1 i2, fun i i1 i2 => by rw [sm 25 i (by decide) (by decide) (by decide) (by decide), sm 26 i (by decide) (by decide) (by decide) (by decide)]; exact h3 i i1 i2, fun i i1 i2 => ?_⟩
    obtain ⟨e1, e2, -⟩ := ad_r (G := G) (b := 28) (x := x) (y := y) (z := z) (i := i) (by decide)
    have e1 : adG G 28 x y z 29 i = _ := e1
    have e2 : adG G 28 x y z 30 i = _ := e2
    rw [e1, e2]
    by_cases q : i = G 0 28
    · rw [if_pos q, if_pos q]; exact ⟨a, d⟩
    · rw [if_neg q, if_neg q]; exact h4 i i1 (by omega)
