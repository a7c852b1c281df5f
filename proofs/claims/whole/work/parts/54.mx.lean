/-! CONTRACTS: the reference's fond by likes that are laid -/
theorem m_fondBy {H : hf} {c G : ct} {K : SK} {d : Nat} {Q : ct → Int → Prop} {p : Int} (hM : MT c G) (hL : MCL c) (hw : lsR c 3 (bhM c - bgM c).toNat (bgM c) 6 = H (G 0 13) 2 (fun _ => 0)) (hk : ∀ o, 0 ≤ o → o < G 0 10 → o ≠ p → c 124 (6 * p + o) = lkG H G (G 0 12) p o ∧ -1000 ≤ lkG H G (G 0 12) p o ∧ lkG H G (G 0 12) p o ≤ 1000) (hp : 0 ≤ p ∧ p < G 0 10) (h : Q c (fdG H G (G 0 12) p)) : CI K (d + 4) mX9_fondBy [(2, 108), (0, p)] c Q := by
  obtain ⟨e0, n0, n6⟩ := hM.1
  obtain ⟨⟨e1, k0, k7⟩, ⟨e2, v0, v9⟩, ⟨e3, s0, s6⟩, -, -, g01, e7⟩ := hM.2.2.2.2.2.2 p hp.1 hp.2
  obtain ⟨ey, y0, y1⟩ := hM.2.2.1
  have p6 : 0 ≤ p ∧ p < 6 := ⟨hp.1, by omega⟩
  have c01 : ∀ o, 0 ≤ o → o < G 0 10 → cnG G p o = 0 ∨ cnG G p o = 1 := fun o _ _ => by unfold cnG; split; exact Or.inr rfl; exact Or.inl rfl
  have tm4 := tm_r (a := G 3 p) (b := 4) s0 (by decide)
  have tm2 := tm_r (a := G 0 12) (b := 2) y0 (by decide)
  have fin : G 6 p = 0 → ∀ S T : Int, -6000 ≤ S → S ≤ 6000 → 0 ≤ T → T ≤ 6 → S = smR (fun o => cnG G p o * lkG H G (G 0 12) p o) (G 0 10).toNat 0 → T = smR (fun o => cnG G p o * sis1 (G 1 o)) (G 0 10).toNat 0 → WI K (d + 4) mX9_fondBy 28 [(2, 108), (0, p), (0, S), (0, T), (0, nbG G p), (0, G 0 10)] [] c Q := by
    intro hz S T S0 S1 T0 T1 eS eT
    have em : smG H G (G 0 12) p = S - sis1 (G 1 p) * G 2 p * T := by rw [smG_two, ← eS, ← eT]
    unfold fdG at h
    rw [em, if_neg (fun q => q hz)] at h
    have iS : ir S := ⟨by omega, by omega⟩
    have ik : ir (G 1 p) := ⟨by omega, by omega⟩
    have iy : ir (G 0 12) := ⟨by omega, by omega⟩
    have it : ir (Int.tmod (G 0 12) 2) := ⟨by omega, by omega⟩
    have is3 : ir (G 3 p) := ⟨by omega, by omega⟩
    have e7' := (e7 _ tm4.1 tm4.2).1
    have e76 : 4 * p + Int.tmod (G 3 p) 4 = p * 4 + Int.tmod (G 3 p) 4 := by omega
    refine s_X9_fondBy_28 p S T _ _ ?_
    rw [e0, e3]
    refine ⟨⟨⟨by omega, by omega⟩, ⟨by omega, by omega⟩⟩, fun _ => ⟨p6, fun z => m_lastOf hL ⟨by decide, by decide⟩ ?_, fun z => ⟨is3, ?_⟩⟩, fun z => absurd (Int.le_refl _) z⟩
    · rw [hw, e1, e2, e3, ey, e76, e7']
      refine ⟨p6, ik, fun q => ⟨iS, ?_⟩, fun q => ?_, fun q => ⟨p6, ?_⟩, fun q => ⟨p6, ?_⟩, fun q => ⟨iy, fun y => ?_, fun y => ⟨it, ?_⟩⟩, fun q => ⟨p6, p6, is3, by omega, ?_⟩, fun q => ?_⟩
      · rw [q] at h; simp [sis1] at h; exact h
      · rw [q] at h; simp [sis1, z] at h; exact h
      · rw [q] at h; simp [sis1] at h; exact h
      · rw [q] at h; simp [sis1] at h; exact h
      · rw [q] at h; simp [sis1, y] at h; exact h
      · have y' : Int.tmod (G 0 12) 2 = 0 := by omega
        rw [q] at h; simp [sis1, y', z] at h; exact h
      · rw [q] at h; simp [sis1] at h; exact h
      · have q' : G 1 p = 0 := by omega
        rw [q'] at h; simp [sis1] at h; exact h
    · rw [e1, e2, ey, e76, e7']
      refine ⟨p6, ik, fun q => ⟨iS, ?_⟩, fun q => ?_, fun q => ⟨p6, ?_⟩, fun q => ⟨p6, ?_⟩, fun q => ⟨iy, fun y => ?_, fun y => ⟨it, ?_⟩⟩, fun q => ⟨p6, p6, is3, by omega, ?_⟩, fun q => ?_⟩
      · rw [q] at h; simp [sis1] at h; exact h
      · rw [q] at h; simp [sis1, z] at h; exact h
      · rw [q] at h; simp [sis1] at h; exact h
      · rw [q] at h; simp [sis1] at h; exact h
      · rw [q] at h; simp [sis1, y] at h; exact h
      · have y' : Int.tmod (G 0 12) 2 = 0 := by omega
        rw [q] at h; simp [sis1, y', z] at h; exact h
      · rw [q] at h; simp [sis1] at h; exact h
      · have q' : G 1 p = 0 := by omega
        rw [q'] at h; simp [sis1] at h; exact h
  have loop : G 6 p = 0 → ∀ (n : Nat) (o S T : Int), o = G 0 10 - n → 0 ≤ o → -(1000 * o) ≤ S → S ≤ 1000 * o → 0 ≤ T → T ≤ o → S + smR (fun o => cnG G p o * lkG H G (G 0 12) p o) n o = smR (fun o => cnG G p o * lkG H G (G 0 12) p o) (G 0 10).toNat 0 → T + smR (fun o => cnG G p o * sis1 (G 1 o)) n o = smR (fun o => cnG G p o * sis1 (G 1 o)) (G 0 10).toNat 0 → WI K (d + 4) mX9_fondBy 28 [(2, 108), (0, p), (0, S), (0, T), (0, nbG G p), (0, o)] [] c Q := by
    intro hz n
    induction n with
    | zero =>
      intro o S T ho o0 S0 S1 T0 T1 eS eT
      have e : o = G 0 10 := by omega
      subst e
      exact fin hz S T (by omega) (by omega) T0 (by omega) (by simpa [smR] using eS) (by simpa [smR] using eT)
    | succ n ih =>
      intro o S T ho o0 S0 S1 T0 T1 eS eT
      have on : o < G 0 10 := by omega
      have b := mk_bit (f := cnG G p) (n := G 0 10) (k := o) ⟨n0, n6⟩ c01 ⟨o0, by omega⟩
      rw [smR, ← Int.add_assoc] at eS eT
      obtain ⟨f1, f0, f7⟩ := (hM.2.2.2.2.2.2 o o0 on).1
      refine s_X9_fondBy_28 p S T _ _ ?_
      rw [e0]
      refine ⟨⟨⟨by omega, by omega⟩, ⟨by omega, by omega⟩⟩, fun z => absurd z (by omega), fun _ => ?_⟩
      rw [nbG_mk]
      refine m_has b.1 ⟨o0, by omega⟩ ?_
      rw [b.2, if_pos on, ← nbG_mk]
      have c1 := c01 o o0 on
      refine ⟨fun z => ?_, fun z => ⟨ir_01 c1, ?_⟩⟩
      · rw [z, Int.zero_mul, Int.add_zero] at eS eT
        exact ih (o + 1) S T (by omega) (by omega) (by omega) (by omega) T0 (by omega) eS eT
      · have z1 : cnG G p o = 1 := by omega
        have hop : o ≠ p := by
          intro q
          subst q
          unfold cnG at z1
          have := aft_ahd ⟨s0, s6⟩
          rw [if_neg (fun w => by have := w.2; omega)] at z1
          omega
        obtain ⟨l1, l2, l3⟩ := hk o o0 on hop
        rw [z1, Int.one_mul] at eS eT
        rw [l1, f1]
        refine ⟨⟨by omega, by omega⟩, ⟨o0, by omega⟩, fun q => ?_, fun q => ⟨⟨by omega, by omega⟩, ⟨o0, by omega⟩, fun q2 => ?_, fun q2 => ⟨⟨by omega, by omega⟩, ?_⟩⟩⟩
        · have : sis1 (G 1 o) = 1 := by unfold sis1; exact if_pos (Or.inl q)
          rw [this] at eT
          exact ih (o + 1) _ _ (by omega) (by omega) (by omega) (by omega) (by omega) (by omega) eS eT
        · have : sis1 (G 1 o) = 1 := by unfold sis1; exact if_pos (Or.inr q2)
          rw [this] at eT
          exact ih (o + 1) _ _ (by omega) (by omega) (by omega) (by omega) (by omega) (by omega) eS eT
        · have : sis1 (G 1 o) = 0 := by unfold sis1; exact if_neg (fun w => w.elim q q2)
          rw [this] at eT
          exact ih (o + 1) _ _ (by omega) (by omega) (by omega) (by omega) (by omega) (by omega) eS eT
  refine e_X9_fondBy p (s_X9_fondBy_0 p (m_gone hM hp ⟨fun z => m_beside hM hp (loop z (G 0 10).toNat 0 0 0 (by omega) (by decide) (by decide) (by decide) (by decide) (by decide) (by omega) (by omega)), fun z => ⟨ir_01 g01, ?_⟩⟩))
  unfold fdG at h
  rw [if_pos z] at h
  exact h
