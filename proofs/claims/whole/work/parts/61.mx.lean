/-! CONTRACTS: the reference's likes, laid -/
def mbH (i : Int) : Int := if 0 ≤ i then 10 * i else 0
def meH (c : ct) (i : Int) : Int := if 0 ≤ i then 10 * i + c 115 i else 0
def mwt (c : ct) (F : Int → Int) (k : Int) : Int := if 1 < c 116 k then 0 else if topB (evL (mTk c) F (c 119 k - c 118 k).toNat (c 118 k) []) = 0 then 0 else if c 116 k = 0 then c 117 k else -c 117 k
def ltL : List Int := [98, 101, 97, 114, 115, 104, 117, 110, 116, 104, 105, 114, 115, 116, 119, 105, 110, 100, 111, 119]
/-- the letters of the words -/
def LT (c : ct) : Prop := ∀ i : Nat, i < 20 → c 122 i = ltL.getD i 0
def mlk (c : ct) (i : Int) (F : Int → Int) : Int := 2 + smR (mwt c F) (meH c i - mbH i).toNat (mbH i)
/-- house i of the reference is as told -/
def MHR (H : hf) (c : ct) (i : Int) : Prop := (0 ≤ i → 0 ≤ c 115 i ∧ c 115 i ≤ 10) ∧ (∀ k, mbH i ≤ k → k < meH c i → ((0 ≤ c 116 k ∧ c 116 k ≤ 3) ∧ 0 ≤ c 117 k ∧ c 117 k ≤ 99) ∧ (c 116 k ≤ 1 → ((0 ≤ c 118 k ∧ c 118 k ≤ c 119 k ∧ c 119 k ≤ 600) ∧ c 119 k ≤ 100 * i + 100) ∧ wfT (mTk c) (c 119 k - c 118 k).toNat (c 118 k) 0)) ∧
  ∀ F, mlk c i F = H i 0 F ∧ lsR c 2 (meH c i - mbH i).toNat (mbH i) 5 = H i 1 F ∧ lsR c 3 (meH c i - mbH i).toNat (mbH i) 6 = H i 2 F ∧ LT c
theorem lsR_congr {c c' : ct} {w : Int} (h6 : c' 116 = c 116) (h7 : c' 117 = c 117) : ∀ (n : Nat) (k a : Int), lsR c' w n k a = lsR c w n k a := by
  intro n
  induction n with
  | zero => intro k a; rfl
  | succ n ih => intro k a; rw [lsR, lsR, ih, h6, h7]
theorem MHR_congr {H : hf} {c c' : ct} {i : Int} (h : MHR H c i) (hc : ∀ k, 115 ≤ k → k ≤ 122 → ∀ j, c' k j = c k j) : MHR H c' i := by
  have e5 : c' 115 = c 115 := funext (hc 115 (by decide) (by decide))
  have e6 : c' 116 = c 116 := funext (hc 116 (by decide) (by decide))
  have e7 : c' 117 = c 117 := funext (hc 117 (by decide) (by decide))
  have e8 : c' 118 = c 118 := funext (hc 118 (by decide) (by decide))
  have e9 : c' 119 = c 119 := funext (hc 119 (by decide) (by decide))
  have e0 : c' 120 = c 120 := funext (hc 120 (by decide) (by decide))
  have em : mTk c' = mTk c := by unfold mTk; rw [e0]
  have el : LT c' = LT c := by unfold LT; rw [show c' 122 = c 122 from funext (hc 122 (by decide) (by decide))]
  have ee : meH c' i = meH c i := by unfold meH; rw [e5]
  have ew : mwt c' = mwt c := by unfold mwt; rw [e6, e7, e8, e9, em]
  unfold MHR at h ⊢
  unfold mlk at h ⊢
  rw [ee, ew, e5, e6, e7, e8, e9, em, el]
  simp only [lsR_congr e6 e7]
  exact h
/-- the reference's table, and the house that holds -/
def MK (H : hf) (c G : ct) : Prop := MT c G ∧ MHR H c (G 0 13)
theorem MK_congr {H : hf} {c c' G : ct} (h : MK H c G) (h0 : ∀ j, (j ≤ 4 ∨ j = 11) → c' 108 j = c 108 j) (hr : ∀ k, 109 ≤ k → k ≤ 122 → ∀ j, c' k j = c k j) : MK H c' G :=
  ⟨MT_congr h.1 h0 (fun k a b j => hr k a (by omega) j), MHR_congr h.2 (fun k a b j => hr k (by omega) b j)⟩
theorem MK.bg {H : hf} {c G : ct} (h : MK H c G) : bgM c = mbH (G 0 13) ∧ bhM c = meH c (G 0 13) := by
  have e := h.1.2.2.2.1.1
  unfold bgM bhM mbH meH
  rw [e]
  exact ⟨rfl, rfl⟩
theorem MK.cl {H : hf} {c G : ct} (h : MK H c G) : MCL c := by
  have b := h.bg
  have e := h.1.2.2.2.1
  unfold MCL
  rw [b.1, b.2, e.1]
  exact ⟨e.2, h.2.1, fun k a z => (h.2.2.1 k a z).1⟩
theorem MK.win {H : hf} {c G : ct} (h : MK H c G) : lsR c 3 (bhM c - bgM c).toNat (bgM c) 6 = H (G 0 13) 2 (fun _ => 0) := by
  rw [h.bg.1, h.bg.2]; exact (h.2.2.2 _).2.2.1
theorem MK.thi {H : hf} {c G : ct} (h : MK H c G) : lsR c 2 (bhM c - bgM c).toNat (bgM c) 5 = H (G 0 13) 1 (fun _ => 0) := by
  rw [h.bg.1, h.bg.2]; exact (h.2.2.2 _).2.1
theorem mlk_r {H : hf} {c : ct} {i : Int} (h : MHR H c i) (F : Int → Int) : -1000 ≤ H i 0 F ∧ H i 0 F ≤ 1000 := by
  have w := smR_bd (f := mwt c F) (B := 99) (meH c i - mbH i).toNat (mbH i) (fun j g1 g2 => by
    have := (h.2.1 j g1 (by omega)).1
    unfold mwt
    repeat' split
    all_goals omega)
  have l : meH c i - mbH i ≤ 10 := by
    unfold meH mbH
    by_cases z : 0 ≤ i
    · have := h.1 z; rw [if_pos z, if_pos z]; omega
    · rw [if_neg z, if_neg z]; omega
  rw [← (h.2.2 F).1]
  unfold mlk
  omega
theorem m_likesOf {H : hf} {c G : ct} {K : SK} {d : Nat} {Q : ct → Int → Prop} {p q : Int} (hK : MK H c G) (hp : 0 ≤ p ∧ p < G 0 10) (hq : 0 ≤ q ∧ q < G 0 10) (h : ∀ c', off1 c c' 123 → Q c' (lkG H G (G 0 12) p q)) : CI K (d + 3) mX9_likesOf [(2, 108), (0, p), (0, q)] c Q := by
  have hb := bg_r hK.cl
  have b := hK.bg
  have loop : ∀ (n : Nat) (k a : Int) (c1 : ct), k = bhM c - n → bgM c ≤ k → off1 c c1 123 → (∀ c', off1 c c' 123 → Q c' (a + smR (mwt c (fcG G (G 0 12) p q)) n k)) → WI K (d + 3) mX9_likesOf 8 [(2, 108), (0, p), (0, q), (0, a), (0, k)] [] c1 Q := by
    intro n
    induction n with
    | zero =>
      intro k a c1 hk k0 ho hQ
      have hK1 : MK H c1 G := MK_congr hK (fun j _ => ho 108 (by decide) j) (fun k a b j => ho k (by omega) j)
      have eb : bhM c1 = bhM c := by rw [hK1.bg.2, b.2]; unfold meH; rw [ho 115 (by decide)]
      refine s_X9_likesOf_8 p q a k (m_behind hK1.cl ?_)
      rw [eb]
      refine ⟨⟨⟨by omega, by omega⟩, ⟨by omega, by omega⟩⟩, fun _ => ?_, fun z => absurd (by omega) z⟩
      have := hQ c1 ho
      simpa [smR] using this
    | succ n ih =>
      intro k a c1 hk k0 ho hQ
      have hK1 : MK H c1 G := MK_congr hK (fun j _ => ho 108 (by decide) j) (fun k a b j => ho k (by omega) j)
      have eb : bhM c1 = bhM c := by rw [hK1.bg.2, b.2]; unfold meH; rw [ho 115 (by decide)]
      have hk2 := hK.2.2.1 k (by omega) (by omega)
      obtain ⟨⟨⟨w0, w3⟩, n0, n9⟩, hT⟩ := hk2
      simp only [smR, ← Int.add_assoc] at hQ
      have k60 : 0 ≤ k ∧ k < 60 := ⟨by omega, by omega⟩
      refine s_X9_likesOf_8 p q a k (m_behind hK1.cl ?_)
      rw [eb, ho 116 (by decide)]
      refine ⟨⟨⟨by omega, by omega⟩, ⟨by omega, by omega⟩⟩, fun z => absurd z (by omega), fun _ => ⟨k60, ⟨by omega, by omega⟩, fun z => ?_, fun z => ?_⟩⟩
      · refine ih (k + 1) a c1 (by omega) (by omega) ho ?_
        have : mwt c (fcG G (G 0 12) p q) k = 0 := by unfold mwt; rw [if_pos z]
        simp only [this, Int.add_zero] at hQ
        exact hQ
      · obtain ⟨⟨hf, _⟩, hw⟩ := hT (by omega)
        have r8 : c1 118 = c 118 := funext (ho 118 (by decide))
        have r9 : c1 119 = c 119 := funext (ho 119 (by decide))
        have r0 : mTk c1 = mTk c := by unfold mTk; rw [show c1 120 = c 120 from funext (ho 120 (by decide))]
        refine m_holds hK1.1 k60 hp hq (by rw [r8, r9]; exact hf) (by rw [r8, r9, r0]; exact hw) (fun c8 h8 => ?_)
        rw [r8, r9, r0]
        have ho8 := ho.trans h8
        have tb := topB_01 (F := fcG G (G 0 12) p q) hw
        rw [ho8 116 (by decide), ho8 117 (by decide)]
        refine ⟨fun z2 => ?_, fun z2 => ⟨ir_01 tb, k60, fun z3 => ⟨k60, ?_⟩, fun z3 => ⟨⟨by omega, by omega⟩, k60, ?_⟩⟩⟩
        · refine ih (k + 1) a c8 (by omega) (by omega) ho8 ?_
          have : mwt c (fcG G (G 0 12) p q) k = 0 := by unfold mwt; rw [if_neg z, if_pos z2]
          simp only [this, Int.add_zero] at hQ
          exact hQ
        · refine ih (k + 1) _ c8 (by omega) (by omega) ho8 ?_
          have : mwt c (fcG G (G 0 12) p q) k = c 117 k := by unfold mwt; rw [if_neg z, if_neg z2, if_pos z3]
          simp only [this] at hQ
          exact hQ
        · refine ih (k + 1) _ c8 (by omega) (by omega) ho8 ?_
          have : mwt c (fcG G (G 0 12) p q) k = -c 117 k := by unfold mwt; rw [if_neg z, if_neg z2, if_neg z3]
          simp only [this] at hQ
          exact hQ
  refine e_X9_likesOf p q (s_X9_likesOf_0 p q (m_begin hK.cl ?_))
  refine loop (bhM c - bgM c).toNat (bgM c) 2 c (by omega) (Int.le_refl _) off1.rf ?_
  have e : 2 + smR (mwt c (fcG G (G 0 12) p q)) (bhM c - bgM c).toNat (bgM c) = lkG H G (G 0 12) p q := by
    rw [b.1, b.2]
    exact (hK.2.2.2 (fcG G (G 0 12) p q)).1
  rw [e]
  exact h
/-- nothing changed but the pile and the likes that are laid -/
def offL (c c' : ct) : Prop := ∀ k, k ≠ 123 → k ≠ 124 → ∀ j, c' k j = c k j
theorem offL.rf {c : ct} : offL c c := fun _ _ _ _ => rfl
theorem offL.trans {c c1 c2 : ct} (h1 : offL c c1) (h2 : offL c1 c2) : offL c c2 := fun k a b j => (h2 k a b j).trans (h1 k a b j)
theorem MK_offL {H : hf} {c c' G : ct} (h : MK H c G) (ho : offL c c') : MK H c' G := MK_congr h (fun j _ => ho 108 (by decide) (by decide) j) (fun k a b j => ho k (by omega) (by omega) j)
theorem m_layLikes {H : hf} {c G : ct} {K : SK} {d : Nat} {Q : ct → Prop} (hK : MK H c G) (h : ∀ c', offL c c' → MK H c' G → LKD H c' G → Q c') : CV K (d + 4) mX9_layLikes [(2, 108)] c Q := by
  obtain ⟨e0, n0, n6⟩ := hK.1.1
  have inner : ∀ (n : Nat) (p o : Int) (c1 : ct), o = G 0 10 - n → 0 ≤ o → 0 ≤ p → p < G 0 10 → offL c c1 → (∀ p' o', 0 ≤ p' → p' < G 0 10 → 0 ≤ o' → o' < G 0 10 → o' ≠ p' → (p' < p ∨ (p' = p ∧ o' < o)) → c1 124 (6 * p' + o') = lkG H G (G 0 12) p' o') →
      (∀ c2, offL c c2 → (∀ p' o', 0 ≤ p' → p' < G 0 10 → 0 ≤ o' → o' < G 0 10 → o' ≠ p' → p' < p + 1 → c2 124 (6 * p' + o') = lkG H G (G 0 12) p' o') → WV K (d + 4) mX9_layLikes 2 [(2, 108), (0, p + 1), (9, 0)] [] c2 Q) → WV K (d + 4) mX9_layLikes 12 [(2, 108), (0, p), (0, o)] [] c1 Q := by
    intro n
    induction n with
    | zero =>
      intro p o c1 ho o0 p0 pn hoff hi hq
      refine s_X9_layLikes_12 p o ?_
      rw [hoff 108 (by decide) (by decide), e0]
      exact ⟨⟨⟨by omega, by omega⟩, ⟨by omega, by omega⟩⟩, fun _ => hq c1 hoff (fun p' o' a1 a2 a3 a4 a5 a6 => hi p' o' a1 a2 a3 a4 a5 (by omega)), fun z => absurd (by omega) z⟩
    | succ n ih =>
      intro p o c1 ho o0 p0 pn hoff hi hq
      refine s_X9_layLikes_12 p o ?_
      rw [hoff 108 (by decide) (by decide), e0]
      have step : ∀ c3 v, offL c c3 → c3 124 = c1 124 → (o ≠ p → v = lkG H G (G 0 12) p o) → WV K (d + 4) mX9_layLikes 12 [(2, 108), (0, p), (0, o + 1)] [] (up2 c3 124 (6 * p + o) v) Q := by
        intro c3 v h3 e3 hv
        refine ih p (o + 1) _ (by omega) (by omega) p0 pn (fun k a b j => by rw [up2_ne1 b]; exact h3 k a b j) (fun p' o' a1 a2 a3 a4 a5 a6 => ?_) hq
        by_cases z : 6 * p' + o' = 6 * p + o
        · have z1 : p' = p := by omega
          have z2 : o' = o := by omega
          subst z1 z2
          rw [up2_self]; exact hv a5
        · rw [up2_ne2 z, e3]
          exact hi p' o' a1 a2 a3 a4 a5 (by omega)
      refine ⟨⟨⟨by omega, by omega⟩, ⟨by omega, by omega⟩⟩, fun z => absurd z (by omega), fun _ => ⟨fun z => ⟨⟨by omega, by omega⟩, fun c4 h4 => ?_⟩, fun z => ⟨⟨⟨by omega, by omega⟩, ⟨by omega, by omega⟩⟩, m_likesOf (MK_offL hK hoff) ⟨p0, pn⟩ ⟨o0, by omega⟩ (fun c6 h6 => ⟨⟨by omega, by omega⟩, fun c8 h8 => ?_⟩)⟩⟩⟩
      · subst h4; exact step c1 0 hoff rfl (fun q => absurd z.symm q)
      · subst h8
        exact step c6 _ (fun k a b j => (h6 k a j).trans (hoff k a b j)) (funext (h6 124 (by decide))) (fun _ => rfl)
  have outer : ∀ (n : Nat) (p : Int) (c1 : ct), p = G 0 10 - n → 0 ≤ p → offL c c1 → (∀ p' o', 0 ≤ p' → p' < G 0 10 → 0 ≤ o' → o' < G 0 10 → o' ≠ p' → p' < p → c1 124 (6 * p' + o') = lkG H G (G 0 12) p' o') → WV K (d + 4) mX9_layLikes 2 [(2, 108), (0, p), (9, 0)] [] c1 Q := by
    intro n
    induction n with
    | zero =>
      intro p c1 hp p0 hoff hi
      refine s_X9_layLikes_2 p ?_
      rw [hoff 108 (by decide) (by decide), e0]
      exact ⟨⟨⟨by omega, by omega⟩, ⟨by omega, by omega⟩⟩, fun _ => h c1 hoff (MK_offL hK hoff) (fun p' o' a1 a2 a3 a4 a5 => ⟨hi p' o' a1 a2 a3 a4 a5 (by omega), mlk_r hK.2 _⟩), fun z => absurd (by omega) z⟩
    | succ n ih =>
      intro p c1 hp p0 hoff hi
      refine s_X9_layLikes_2 p ?_
      rw [hoff 108 (by decide) (by decide), e0]
      exact ⟨⟨⟨by omega, by omega⟩, ⟨by omega, by omega⟩⟩, fun z => absurd z (by omega), fun _ => inner (G 0 10).toNat p 0 c1 (by omega) (by decide) p0 (by omega) hoff (fun p' o' a1 a2 a3 a4 a5 a6 => hi p' o' a1 a2 a3 a4 a5 (by omega)) (fun c2 h2 hi2 => ih (p + 1) c2 (by omega) (by omega) h2 hi2)⟩
  exact e_X9_layLikes (s_X9_layLikes_0 (outer (G 0 10).toNat 0 c (by omega) (by decide) offL.rf (fun p' o' a1 a2 a3 a4 a5 a6 => by omega)))
theorem m_fond {H : hf} {c G : ct} {K : SK} {d : Nat} {Q : ct → Int → Prop} {p : Int} (hK : MK H c G) (hp : 0 ≤ p ∧ p < G 0 10) (h : ∀ c', offL c c' → MK H c' G → Q c' (fdG H G (G 0 12) p)) : CI K (d + 5) mX9_fond [(2, 108), (0, p)] c Q :=
  e_X9_fond p (s_X9_fond_0 p (m_layLikes hK (fun c1 h1 k1 l1 => m_fondBy k1.1 k1.cl k1.win (fun o a b z => l1 p o hp.1 hp.2 a b z) hp (h c1 h1 k1))))
theorem m_allFond {H : hf} {c G : ct} {K : SK} {d : Nat} {Q : ct → Int → Prop} (hK : MK H c G) (h : ∀ c', offL c c' → MK H c' G → Q c' (allG H G (G 0 12))) : CI K (d + 6) mX9_allFond [(2, 108)] c Q :=
  e_X9_allFond (s_X9_allFond_0 (m_layLikes (d := d + 1) hK (fun c1 h1 k1 l1 => m_allFondBy k1.1 k1.cl k1.win l1 (h c1 h1 k1))))
