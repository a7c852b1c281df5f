/-! CONTRACTS: the reference's table told abstractly; who is beside whom -/
def mkR (f : Int → Int) (n : Int) : Int := smR (fun p => f p * pw p) n.toNat 0
theorem mk_six {f : Int → Int} {n : Int} (hn : 0 ≤ n ∧ n ≤ 6) : mkR f n = (if 0 < n then f 0 else 0) + 2 * (if 1 < n then f 1 else 0) + 4 * (if 2 < n then f 2 else 0) + 8 * (if 3 < n then f 3 else 0) + 16 * (if 4 < n then f 4 else 0) + 32 * (if 5 < n then f 5 else 0) := by
  have p0 : pw 0 = 1 := rfl
  have p1 : pw 1 = 2 := rfl
  have p2 : pw 2 = 4 := rfl
  have p3 : pw 3 = 8 := rfl
  have p4 : pw 4 = 16 := rfl
  have p5 : pw 5 = 32 := rfl
  have : n = 0 ∨ n = 1 ∨ n = 2 ∨ n = 3 ∨ n = 4 ∨ n = 5 ∨ n = 6 := by omega
  rcases this with rfl | rfl | rfl | rfl | rfl | rfl | rfl <;> simp [mkR, smR, p0, p1, p2, p3, p4, p5] <;> omega
theorem bit6 {a0 a1 a2 a3 a4 a5 : Int} (h0 : a0 = 0 ∨ a0 = 1) (h1 : a1 = 0 ∨ a1 = 1) (h2 : a2 = 0 ∨ a2 = 1) (h3 : a3 = 0 ∨ a3 = 1) (h4 : a4 = 0 ∨ a4 = 1) (h5 : a5 = 0 ∨ a5 = 1) : (0 ≤ a0 + 2 * a1 + 4 * a2 + 8 * a3 + 16 * a4 + 32 * a5 ∧ a0 + 2 * a1 + 4 * a2 + 8 * a3 + 16 * a4 + 32 * a5 < 64) ∧ (a0 + 2 * a1 + 4 * a2 + 8 * a3 + 16 * a4 + 32 * a5) / 1 % 2 = a0 ∧ (a0 + 2 * a1 + 4 * a2 + 8 * a3 + 16 * a4 + 32 * a5) / 2 % 2 = a1 ∧ (a0 + 2 * a1 + 4 * a2 + 8 * a3 + 16 * a4 + 32 * a5) / 4 % 2 = a2 ∧ (a0 + 2 * a1 + 4 * a2 + 8 * a3 + 16 * a4 + 32 * a5) / 8 % 2 = a3 ∧ (a0 + 2 * a1 + 4 * a2 + 8 * a3 + 16 * a4 + 32 * a5) / 16 % 2 = a4 ∧ (a0 + 2 * a1 + 4 * a2 + 8 * a3 + 16 * a4 + 32 * a5) / 32 % 2 = a5 := by
  refine ⟨by omega, by omega, by omega, by omega, by omega, by omega, by omega⟩
theorem mk_bit {f : Int → Int} {n k : Int} (hn : 0 ≤ n ∧ n ≤ 6) (hf : ∀ p, 0 ≤ p → p < n → f p = 0 ∨ f p = 1) (hk : 0 ≤ k ∧ k < 6) : (0 ≤ mkR f n ∧ mkR f n < 64) ∧ mkR f n / pw k % 2 = if k < n then f k else 0 := by
  have key : ∀ j : Int, 0 ≤ j → (if j < n then f j else 0) = 0 ∨ (if j < n then f j else 0) = 1 := by
    intro j j0
    split
    · exact hf j j0 (by assumption)
    · exact Or.inl rfl
  obtain ⟨r, b0, b1, b2, b3, b4, b5⟩ := bit6 (key 0 (by decide)) (key 1 (by decide)) (key 2 (by decide)) (key 3 (by decide)) (key 4 (by decide)) (key 5 (by decide))
  rw [mk_six hn]
  refine ⟨r, ?_⟩
  rcases six hk with rfl | rfl | rfl | rfl | rfl | rfl
  · exact b0
  · exact b1
  · exact b2
  · exact b3
  · exact b4
  · exact b5
/-- the reference's table is as G tells -/
def MT (c G : ct) : Prop := (c 108 0 = G 0 10 ∧ 0 ≤ G 0 10 ∧ G 0 10 ≤ 6) ∧ (c 108 3 = G 0 11 ∧ 0 ≤ G 0 11 ∧ G 0 11 < 6) ∧ (c 108 4 = G 0 12 ∧ 0 ≤ G 0 12 ∧ G 0 12 ≤ 20000) ∧ (c 108 11 = G 0 13 ∧ -1 ≤ G 0 13 ∧ G 0 13 < 6) ∧ c 108 1 = mkR (G 6) (G 0 10) ∧ c 108 2 = mkR (G 5) (G 0 10) ∧
  ∀ p, 0 ≤ p → p < G 0 10 → (c 109 p = G 1 p ∧ 0 ≤ G 1 p ∧ G 1 p < 7) ∧ (c 110 p = G 2 p ∧ 0 ≤ G 2 p ∧ G 2 p ≤ 9) ∧ (c 111 p = G 3 p ∧ 0 ≤ G 3 p ∧ G 3 p < 6) ∧ (c 112 p = G 4 p ∧ 0 ≤ G 4 p ∧ G 4 p ≤ 20000) ∧ (G 5 p = 0 ∨ G 5 p = 1) ∧ (G 6 p = 0 ∨ G 6 p = 1) ∧ ∀ i, 0 ≤ i → i < 4 → c 113 (p * 4 + i) = G 7 (p * 4 + i) ∧ 0 ≤ G 7 (p * 4 + i) ∧ G 7 (p * 4 + i) ≤ 9
theorem m_gone {c G : ct} {K : SK} {d : Nat} {Q : ct → Int → Prop} {p : Int} (hM : MT c G) (hp : 0 ≤ p ∧ p < G 0 10) (h : Q c (G 6 p)) : CI K (d + 1) mX9_has [(2, 108), (0, c 108 1), (0, p)] c Q := by
  obtain ⟨hn, -, -, -, h1, -, hr⟩ := hM
  have b := mk_bit (f := G 6) (n := G 0 10) (k := p) hn.2 (fun q a b => (hr q a b).2.2.2.2.2.1) ⟨hp.1, by omega⟩
  rw [h1]
  refine m_has b.1 ⟨hp.1, by omega⟩ ?_
  rw [b.2, if_pos hp.2]
  exact h
theorem m_emp {c G : ct} {K : SK} {d : Nat} {Q : ct → Int → Prop} {p : Int} (hM : MT c G) (hp : 0 ≤ p ∧ p < G 0 10) (h : Q c (G 5 p)) : CI K (d + 1) mX9_has [(2, 108), (0, c 108 2), (0, p)] c Q := by
  obtain ⟨hn, -, -, -, -, h2, hr⟩ := hM
  have b := mk_bit (f := G 5) (n := G 0 10) (k := p) hn.2 (fun q a b => (hr q a b).2.2.2.2.1) ⟨hp.1, by omega⟩
  rw [h2]
  refine m_has b.1 ⟨hp.1, by omega⟩ ?_
  rw [b.2, if_pos hp.2]
  exact h
theorem m_isCompany {c G : ct} {K : SK} {d : Nat} {Q : ct → Int → Prop} {p : Int} (hM : MT c G) (hp : 0 ≤ p ∧ p < G 0 10) (h0 : ¬ (G 6 p = 0 ∧ ¬ G 1 p = 4) → Q c 0) (h1 : G 6 p = 0 → ¬ G 1 p = 4 → Q c 1) : CI K (d + 2) mX9_isCompany [(2, 108), (0, p)] c Q := by
  have hn := hM.1
  obtain ⟨⟨e1, k0, k7⟩, -, -, -, -, r6, -⟩ := hM.2.2.2.2.2.2 p hp.1 hp.2
  refine e_X9_isCompany p (s_X9_isCompany_0 p (m_gone hM hp ?_))
  rw [e1]
  exact ⟨fun z => ⟨⟨hp.1, by omega⟩, fun q => h0 (fun b => b.2 q), fun q => ⟨⟨by omega, by omega⟩, h1 z q⟩⟩, fun z => ⟨ir_01 r6, h0 (fun b => z b.1)⟩⟩
theorem bes_key : ∀ a : Nat, a < 6 → ∀ b : Nat, b < 6 → ((Int.tmod ((a : Int) + 1) 6 = b ∨ Int.tmod ((b : Int) + 1) 6 = a) ↔ ((a : Int) = aft b ∨ (a : Int) = ahd b)) := by decide
theorem m_isBeside {c : ct} {K : SK} {d : Nat} {Q : ct → Int → Prop} {a b : Int} (ha : 0 ≤ a ∧ a < 6) (hb : 0 ≤ b ∧ b < 6) (h0 : ¬ (a = aft b ∨ a = ahd b) → Q c 0) (h1 : (a = aft b ∨ a = ahd b) → Q c 1) : CI K (d + 1) mX9_isBeside [(2, 108), (0, a), (0, b)] c Q := by
  have k := bes_key a.toNat (by omega) b.toNat (by omega)
  rw [show ((a.toNat : Nat) : Int) = a by omega, show ((b.toNat : Nat) : Int) = b by omega] at k
  have t1 := tm_r (a := a + 1) (b := 6) (by omega) (by omega)
  have t2 := tm_r (a := b + 1) (b := 6) (by omega) (by omega)
  refine e_X9_isBeside a b (s_X9_isBeside_0 a b ⟨⟨by omega, by omega⟩, fun z => h1 (k.mp (Or.inl z)), fun z => ⟨⟨⟨by omega, by omega⟩, ⟨by omega, by omega⟩⟩, ⟨by omega, by omega⟩, fun z2 => h1 (k.mp (Or.inr z2)), fun z2 => ⟨⟨⟨by omega, by omega⟩, ⟨by omega, by omega⟩⟩, h0 (fun q => (k.mpr q).elim z z2)⟩⟩⟩)
theorem or_0 {a : Int} (h : ir a) : bOr a 0 = a := by
  unfold bOr
  rw [show Int32.ofInt 0 = 0 from rfl, Int32.or_zero, i_to h]
theorem m_beside {c G : ct} {K : SK} {d : Nat} {Q : ct → Int → Prop} {p : Int} (hM : MT c G) (hp : 0 ≤ p ∧ p < G 0 10) (h : Q c (nbG G p)) : CI K (d + 3) mX9_beside [(2, 108), (0, p)] c Q := by
  have hn := hM.1
  have rp := (hM.2.2.2.2.2.2 p hp.1 hp.2).2.2.1
  have loop : ∀ (n : Nat) (o a : Int), o = G 0 10 - n → 0 ≤ o → 0 ≤ a → (o < 6 → a < pw o) → a < 64 → Q c (a + smR (fun o => if (G 6 o = 0 ∧ ¬ G 1 o = 4) ∧ (G 3 o = aft (G 3 p) ∨ G 3 o = ahd (G 3 p)) then pw o else 0) n o) → WI K (d + 3) mX9_beside 4 [(2, 108), (0, p), (0, a), (0, o)] [] c Q := by
    intro n
    induction n with
    | zero =>
      intro o a ho o0 a0 ap a6 hq
      refine s_X9_beside_4 p a o ?_
      rw [hn.1]
      refine ⟨⟨⟨by omega, by omega⟩, ⟨by omega, by omega⟩⟩, fun _ => ?_, fun z => absurd (by omega) z⟩
      simpa [smR] using hq
    | succ n ih =>
      intro o a ho o0 a0 ap a6 hq
      have ap := ap (by omega)
      have ro := hM.2.2.2.2.2.2 o o0 (by omega)
      rw [smR, ← Int.add_assoc] at hq
      have pwb := pw_p o
      have nxt : ∀ b : Int, (b = 0 ∨ b = 1) → 0 ≤ a + b * pw o ∧ (o + 1 < 6 → a + b * pw o < pw (o + 1)) ∧ a + b * pw o < 64 := by
        intro b hb
        refine ⟨by rcases hb with rfl | rfl <;> omega, fun q => ?_, by rcases hb with rfl | rfl <;> omega⟩
        rw [pw_s ⟨o0, by omega⟩]
        rcases hb with rfl | rfl <;> omega
      have n0 := nxt 0 (Or.inl rfl)
      have n1 := nxt 1 (Or.inr rfl)
      rw [Int.zero_mul, Int.add_zero] at n0
      have skip : ¬ ((G 6 o = 0 ∧ ¬ G 1 o = 4) ∧ (G 3 o = aft (G 3 p) ∨ G 3 o = ahd (G 3 p))) → WI K (d + 3) mX9_beside 4 [(2, 108), (0, p), (0, bOr a 0), (0, o + 1)] [] c Q := by
        intro hz
        rw [or_0 ⟨by omega, by omega⟩]
        rw [if_neg hz, Int.add_zero] at hq
        exact ih (o + 1) a (by omega) (by omega) n0.1 n0.2.1 n0.2.2 hq
      refine s_X9_beside_4 p a o ?_
      rw [hn.1]
      refine ⟨⟨⟨by omega, by omega⟩, ⟨by omega, by omega⟩⟩, fun z => absurd z (by omega), fun _ => ⟨fun e => skip (fun q => ?_), fun e => ⟨⟨⟨by omega, by omega⟩, ⟨by omega, by omega⟩⟩, m_isCompany hM ⟨o0, by omega⟩ (fun z => ⟨fun _ => skip (fun q => z q.1), fun q => absurd rfl q⟩) (fun z1 z2 => ⟨fun q => absurd q one_ne, fun _ => ⟨ir01.2, ⟨o0, by omega⟩, ⟨hp.1, by omega⟩, ?_⟩⟩)⟩⟩⟩
      · subst e
        have := aft_ahd rp.2
        omega
      · rw [ro.2.2.1.1, rp.1]
        refine m_isBeside ro.2.2.1.2 rp.2 (fun z => ⟨fun _ => skip (fun q => z q.2), fun q => absurd rfl q⟩) (fun z => ⟨fun q => absurd q one_ne, fun _ => ⟨ir01.2, ?_⟩⟩)
        rw [or_shl ⟨o0, by omega⟩ ⟨a0, ap⟩ (Or.inr rfl)]
        rw [if_pos ⟨⟨z1, z2⟩, z⟩] at hq
        exact ih (o + 1) _ (by omega) (by omega) n1.1 n1.2.1 n1.2.2 (by rw [Int.one_mul]; exact hq)
  exact e_X9_beside p (s_X9_beside_0 p (loop (G 0 10).toNat 0 0 (by omega) (by decide) (by decide) (fun _ => by decide) (by decide) (by rw [Int.zero_add]; exact h)))
