theorem p_guest {K : SK} {d : Nat} {c : ct} (hL : LI c) {k v : Int} (hk : ir k) (hv : ir v) : CI K (d + 24) mX8_guest [(2, 0), (0, k), (0, v)] c (fun c1 r1 => CI K (d + 24) mX9_guest [(2, 108), (0, k), (0, v)] c1 (fun c2 r2 => r1 = r2 ∧ LI c2)) := by
  obtain ⟨H, N, I, X, hC, hM, hl, h70, h71⟩ := hL
  have hP := CSR_PU hC
  refine o_guest (d := d + 18) hC hk hv ?_ ?_ ?_ ?_
  · intro g0
    have hM1 := hM
    refine n_guest (d := d + 22) hM1 hP hk hv ?_ ?_ ?_ ?_
    · intro e0
      exact ⟨rfl, LI_mk hC loM.rf hM1 (hl) h70 h71⟩
    · intro e0 e1 e2
      exfalso; first | contradiction | omega | (simp only [isG, isP] at *; omega)
    · intro e0 e1 e2 e3 e4
      exfalso; first | contradiction | omega | (simp only [isG, isP] at *; omega)
    · intro c2 s2 e0 e1 e2 e3 e4 lo2 fr2 hM2
      exfalso; first | contradiction | omega | (simp only [isG, isP] at *; omega)
  · intro g0 g1 g2
    have hM1 := hM
    refine n_guest (d := d + 22) hM1 hP hk hv ?_ ?_ ?_ ?_
    · intro e0
      exfalso; first | contradiction | omega | (simp only [isG, isP] at *; omega)
    · intro e0 e1 e2
      exact ⟨rfl, LI_mk hC loM.rf hM1 (hl) h70 h71⟩
    · intro e0 e1 e2 e3 e4
      exfalso; first | contradiction | omega | (simp only [isG, isP] at *; omega)
    · intro c2 s2 e0 e1 e2 e3 e4 lo2 fr2 hM2
      exfalso; first | contradiction | omega | (simp only [isG, isP] at *; omega)
  · intro g0 g1 g2 g3 g4
    have hM1 := hM
    refine n_guest (d := d + 22) hM1 hP hk hv ?_ ?_ ?_ ?_
    · intro e0
      exfalso; first | contradiction | omega | (simp only [isG, isP] at *; omega)
    · intro e0 e1 e2
      exfalso; first | contradiction | omega | (simp only [isG, isP] at *; omega)
    · intro e0 e1 e2 e3 e4
      exact ⟨rfl, LI_mk hC loM.rf hM1 (hl) h70 h71⟩
    · intro c2 s2 e0 e1 e2 e3 e4 lo2 fr2 hM2
      exfalso; first | contradiction | omega | (simp only [isG, isP] at *; omega)
  · intro c1 s1 g0 g1 g2 g3 g4 lo1 fr1 hC1
    have hM1 := MSR_lo hM hP.1.2.2.1 (fun k a j => lo1 k (Or.inl a) j)
    refine n_guest (d := d + 22) hM1 hP hk hv ?_ ?_ ?_ ?_
    · intro e0
      exfalso; first | contradiction | omega | (simp only [isG, isP] at *; omega)
    · intro e0 e1 e2
      exfalso; first | contradiction | omega | (simp only [isG, isP] at *; omega)
    · intro e0 e1 e2 e3 e4
      exfalso; first | contradiction | omega | (simp only [isG, isP] at *; omega)
    · intro c2 s2 e0 e1 e2 e3 e4 lo2 fr2 hM2
      have es := fre_one fr2 fr1; subst es
      exact ⟨rfl, LI_mk hC1 lo2 hM2 (hl) (ir_70 lo1 h70) (ir_70 lo1 h71)⟩
theorem p_of {K : SK} {d : Nat} {c : ct} (hL : LI c) {p w : Int} (hp : ir p) (hw : ir w) : CI K (d + 24) mX8_of [(2, 0), (0, p), (0, w)] c (fun c1 r1 => CI K (d + 24) mX9_of [(2, 108), (0, p), (0, w)] c1 (fun c2 r2 => r1 = r2 ∧ LI c2)) := by
  obtain ⟨H, N, I, X, hC, hM, hl, h70, h71⟩ := hL
  have hP := CSR_PU hC
  refine o_of (d := d + 20) hC hp hw ?_ ?_
  · intro g0
    have hM1 := hM
    refine n_of (d := d + 18) hM1 hP hp hw ?_ ?_
    · intro e0
      exact ⟨rfl, LI_mk hC loM.rf hM1 (hl) h70 h71⟩
    · intro c2 e0 lo2 hM2
      exfalso; first | contradiction | omega | (simp only [isG, isP] at *; omega)
  · intro g0
    have hM1 := hM
    refine n_of (d := d + 18) hM1 hP hp hw ?_ ?_
    · intro e0
      exfalso; first | contradiction | omega | (simp only [isG, isP] at *; omega)
    · intro c2 e0 lo2 hM2
      exact ⟨rfl, LI_mk hC lo2 hM2 (hl) h70 h71⟩
theorem p_likes {K : SK} {d : Nat} {c : ct} (hL : LI c) {p q : Int} (hp : ir p) (hq : ir q) : CI K (d + 24) mX8_likes [(2, 0), (0, p), (0, q)] c (fun c1 r1 => CI K (d + 24) mX9_likes [(2, 108), (0, p), (0, q)] c1 (fun c2 r2 => r1 = r2 ∧ LI c2)) := by
  obtain ⟨H, N, I, X, hC, hM, hl, h70, h71⟩ := hL
  have hP := CSR_PU hC
  refine o_likes (d := d + 22) hC hp hq ?_ ?_ ?_
  · intro g0
    have hM1 := hM
    refine n_likes (d := d + 20) hM1 hP hp hq ?_ ?_ ?_
    · intro e0
      exact ⟨rfl, LI_mk hC loM.rf hM1 (hl) h70 h71⟩
    · intro e0 e1
      exfalso; first | contradiction | omega | (simp only [isG, isP] at *; omega)
    · intro c2 e0 e1 e2 lo2 hM2
      exfalso; first | contradiction | omega | (simp only [isG, isP] at *; omega)
  · intro g0 g1
    have hM1 := hM
    refine n_likes (d := d + 20) hM1 hP hp hq ?_ ?_ ?_
    · intro e0
      exfalso; first | contradiction | omega | (simp only [isG, isP] at *; omega)
    · intro e0 e1
      exact ⟨rfl, LI_mk hC loM.rf hM1 (hl) h70 h71⟩
    · intro c2 e0 e1 e2 lo2 hM2
      exfalso; first | contradiction | omega | (simp only [isG, isP] at *; omega)
  · intro g0 g1 g2
    have hM1 := hM
    refine n_likes (d := d + 20) hM1 hP hp hq ?_ ?_ ?_
    · intro e0
      exfalso; first | contradiction | omega | (simp only [isG, isP] at *; omega)
    · intro e0 e1
      exfalso; first | contradiction | omega | (simp only [isG, isP] at *; omega)
    · intro c2 e0 e1 e2 lo2 hM2
      exact ⟨rfl, LI_mk hC lo2 hM2 (hl) h70 h71⟩
theorem p_sit {K : SK} {d : Nat} {c : ct} (hL : LI c) {p s : Int} (hp : ir p) (hs : ir s) : CI K (d + 24) mX8_sit [(2, 0), (0, p), (0, s)] c (fun c1 r1 => CI K (d + 24) mX9_sit [(2, 108), (0, p), (0, s)] c1 (fun c2 r2 => r1 = r2 ∧ LI c2)) := by
  obtain ⟨H, N, I, X, hC, hM, hl, h70, h71⟩ := hL
  have hP := CSR_PU hC
  refine o_sit (d := d + 20) hC hp hs ?_ ?_
  · intro g0
    have hM1 := hM
    refine n_sit (d := d + 18) hM1 hP hp hs ?_ ?_
    · intro e0
      exact ⟨rfl, LI_mk hC loM.rf hM1 (hl) h70 h71⟩
    · intro c2 e0 e1 e2 lo2 hM2
      exfalso; first | contradiction | omega | (simp only [isG, isP] at *; omega)
  · intro c1 g0 g1 g2 lo1 hC1
    have hM1 := MSR_lo hM hP.1.2.2.1 (fun k a j => lo1 k (Or.inl a) j)
    refine n_sit (d := d + 18) hM1 hP hp hs ?_ ?_
    · intro e0
      exfalso; first | contradiction | omega | (simp only [isG, isP] at *; omega)
    · intro c2 e0 e1 e2 lo2 hM2
      exact ⟨rfl, LI_mk hC1 lo2 hM2 (hl) (ir_70 lo1 h70) (ir_70 lo1 h71)⟩
theorem p_leave {K : SK} {d : Nat} {c : ct} (hL : LI c) {p v : Int} (hp : ir p) (hv : v = 0 ∨ v = 1) : CI K (d + 24) mX8_leave [(2, 0), (0, p), (0, v)] c (fun c1 r1 => CI K (d + 24) mX9_leave [(2, 108), (0, p), (0, v)] c1 (fun c2 r2 => r1 = r2 ∧ LI c2)) := by
  obtain ⟨H, N, I, X, hC, hM, hl, h70, h71⟩ := hL
  have hP := CSR_PU hC
  refine o_leave (d := d + 22) hC hp hv ?_ ?_
  · intro g0
    have hM1 := hM
    refine n_leave (d := d + 21) hM1 hP hp hv ?_ ?_
    · intro e0
      exact ⟨rfl, LI_mk hC loM.rf hM1 (hl) h70 h71⟩
    · intro c2 e0 lo2 hM2
      exfalso; first | contradiction | omega | (simp only [isG, isP] at *; omega)
  · intro c1 g0 lo1 hC1
    have hM1 := MSR_lo hM hP.1.2.2.1 (fun k a j => lo1 k (Or.inl a) j)
    refine n_leave (d := d + 21) hM1 hP hp hv ?_ ?_
    · intro e0
      exfalso; first | contradiction | omega | (simp only [isG, isP] at *; omega)
    · intro c2 e0 lo2 hM2
      exact ⟨rfl, LI_mk hC1 lo2 hM2 (hl) (ir_70 lo1 h70) (ir_70 lo1 h71)⟩
theorem p_pour {K : SK} {d : Nat} {c : ct} (hL : LI c) {s : Int} (hs : ir s) : CI K (d + 24) mX8_pour [(2, 0), (0, s)] c (fun c1 r1 => CI K (d + 24) mX9_pour [(2, 108), (0, s)] c1 (fun c2 r2 => r1 = r2 ∧ LI c2)) := by
  obtain ⟨H, N, I, X, hC, hM, hl, h70, h71⟩ := hL
  have hP := CSR_PU hC
  refine o_pour (d := d + 21) hC hs ?_ ?_
  · intro g0
    have hM1 := hM
    refine n_pour (d := d + 21) hM1 hP hs ?_ ?_
    · intro e0
      exact ⟨rfl, LI_mk hC loM.rf hM1 (hl) h70 h71⟩
    · intro c2 e0 e1 lo2 hM2
      exfalso; first | contradiction | omega | (simp only [isG, isP] at *; omega)
  · intro c1 g0 g1 lo1 hC1
    have hM1 := MSR_lo hM hP.1.2.2.1 (fun k a j => lo1 k (Or.inl a) j)
    refine n_pour (d := d + 21) hM1 hP hs ?_ ?_
    · intro e0
      exfalso; first | contradiction | omega | (simp only [isG, isP] at *; omega)
    · intro c2 e0 e1 lo2 hM2
      exact ⟨rfl, LI_mk hC1 lo2 hM2 (hl) (ir_70 lo1 h70) (ir_70 lo1 h71)⟩
theorem p_row {K : SK} {d : Nat} {c : ct} (hL : LI c) {p a n : Int} (hp : ir p) (ha : ir a) (hnn : ir n) : CI K (d + 24) mX8_row [(2, 0), (0, p), (0, a), (0, n)] c (fun c1 r1 => CI K (d + 24) mX9_row [(2, 108), (0, p), (0, a), (0, n)] c1 (fun c2 r2 => r1 = r2 ∧ LI c2)) := by
  obtain ⟨H, N, I, X, hC, hM, hl, h70, h71⟩ := hL
  have hP := CSR_PU hC
  refine o_row (d := d + 22) hC hp ha hnn ?_ ?_ ?_ ?_
  · intro g0
    have hM1 := hM
    refine n_row (d := d + 21) hM1 hP hp ha hnn ?_ ?_ ?_ ?_
    · intro e0
      exact ⟨rfl, LI_mk hC loM.rf hM1 (hl) h70 h71⟩
    · intro e0 e1 e2 e3
      exfalso; first | contradiction | omega | (simp only [isG, isP] at *; omega)
    · intro e0 e1 e2 e3 e4 e5
      exfalso; first | contradiction | omega | (simp only [isG, isP] at *; omega)
    · intro c2 e0 e1 e2 e3 e4 e5 lo2 hM2
      exfalso; first | contradiction | omega | (simp only [isG, isP] at *; omega)
  · intro g0 g1 g2 g3
    have hM1 := hM
    refine n_row (d := d + 21) hM1 hP hp ha hnn ?_ ?_ ?_ ?_
    · intro e0
      exfalso; first | contradiction | omega | (simp only [isG, isP] at *; omega)
    · intro e0 e1 e2 e3
      exact ⟨rfl, LI_mk hC loM.rf hM1 (hl) h70 h71⟩
    · intro e0 e1 e2 e3 e4 e5
      exfalso; first | contradiction | omega | (simp only [isG, isP] at *; omega)
    · intro c2 e0 e1 e2 e3 e4 e5 lo2 hM2
      exfalso; first | contradiction | omega | (simp only [isG, isP] at *; omega)
  · intro g0 g1 g2 g3 g4 g5
    have hM1 := hM
    refine n_row (d := d + 21) hM1 hP hp ha hnn ?_ ?_ ?_ ?_
    · intro e0
      exfalso; first | contradiction | omega | (simp only [isG, isP] at *; omega)
    · intro e0 e1 e2 e3
      exfalso; first | contradiction | omega | (simp only [isG, isP] at *; omega)
    · intro e0 e1 e2 e3 e4 e5
      exact ⟨rfl, LI_mk hC loM.rf hM1 (hl) h70 h71⟩
    · intro c2 e0 e1 e2 e3 e4 e5 lo2 hM2
      exfalso; first | contradiction | omega | (simp only [isG, isP] at *; omega)
  · intro c1 g0 g1 g2 g3 g4 g5 lo1 hC1
    have hM1 := MSR_lo hM hP.1.2.2.1 (fun k a j => lo1 k (Or.inl a) j)
    refine n_row (d := d + 21) hM1 hP hp ha hnn ?_ ?_ ?_ ?_
    · intro e0
      exfalso; first | contradiction | omega | (simp only [isG, isP] at *; omega)
    · intro e0 e1 e2 e3
      exfalso; first | contradiction | omega | (simp only [isG, isP] at *; omega)
    · intro e0 e1 e2 e3 e4 e5
      exfalso; first | contradiction | omega | (simp only [isG, isP] at *; omega)
    · intro c2 e0 e1 e2 e3 e4 e5 lo2 hM2
      exact ⟨rfl, LI_mk hC1 lo2 hM2 (hl) (ir_70 lo1 h70) (ir_70 lo1 h71)⟩
theorem p_feed {K : SK} {d : Nat} {c : ct} (hL : LI c) {a : Int} (ha : ir a) : CI K (d + 24) mX8_feed [(2, 0), (0, a)] c (fun c1 r1 => CI K (d + 24) mX9_feed [(2, 108), (0, a)] c1 (fun c2 r2 => r1 = r2 ∧ LI c2)) := by
  obtain ⟨H, N, I, X, hC, hM, hl, h70, h71⟩ := hL
  have hP := CSR_PU hC
  refine o_feed (d := d + 23) hC ha ?_ ?_ ?_
  · intro g0
    have hM1 := hM
    refine n_feed (d := d + 22) hM1 hP ha ?_ ?_ ?_
    · intro e0
      exact ⟨rfl, LI_mk hC loM.rf hM1 (hl) h70 h71⟩
    · intro e0 e1 e2
      exfalso; first | contradiction | omega | (simp only [isG, isP] at *; omega)
    · intro c2 e0 e1 e2 lo2 hM2
      exfalso; first | contradiction | omega | (simp only [isG, isP] at *; omega)
  · intro g0 g1 g2
    have hM1 := hM
    refine n_feed (d := d + 22) hM1 hP ha ?_ ?_ ?_
    · intro e0
      exfalso; first | contradiction | omega | (simp only [isG, isP] at *; omega)
    · intro e0 e1 e2
      exact ⟨rfl, LI_mk hC loM.rf hM1 (hl) h70 h71⟩
    · intro c2 e0 e1 e2 lo2 hM2
      exfalso; first | contradiction | omega | (simp only [isG, isP] at *; omega)
  · intro c1 g0 g1 g2 lo1 hC1
    have hM1 := MSR_lo hM hP.1.2.2.1 (fun k a j => lo1 k (Or.inl a) j)
    refine n_feed (d := d + 22) hM1 hP ha ?_ ?_ ?_
    · intro e0
      exfalso; first | contradiction | omega | (simp only [isG, isP] at *; omega)
    · intro e0 e1 e2
      exfalso; first | contradiction | omega | (simp only [isG, isP] at *; omega)
    · intro c2 e0 e1 e2 lo2 hM2
      exact ⟨rfl, LI_mk hC1 lo2 hM2 (IL_fd hl) (ir_70 lo1 h70) (ir_70 lo1 h71)⟩
theorem p_house {K : SK} {d : Nat} {c : ct} (hL : LI c)  : CI K (d + 24) mX8_house [(2, 0)] c (fun c1 r1 => CI K (d + 24) mX9_house [(2, 108)] c1 (fun c2 r2 => r1 = r2 ∧ LI c2)) := by
  obtain ⟨H, N, I, X, hC, hM, hl, h70, h71⟩ := hL
  have hP := CSR_PU hC
  refine o_house (d := d + 1) hC ?_ ?_ ?_
  · intro g0
    have hM1 := hM
    refine n_house (d := d + 14) hM1 hP ?_ ?_ ?_
    · intro e0
      exact ⟨rfl, LI_mk hC loM.rf hM1 (hl) h70 h71⟩
    · intro e0 e1 c2 lo2 hM2
      exfalso; first | contradiction | omega | (simp only [isG, isP] at *; omega)
    · intro e0 e1 c2 lo2 hM2
      exfalso; first | contradiction | omega | (simp only [isG, isP] at *; omega)
  · intro g0 g1 c1 lo1 hC1
    have hM1 := MSR_lo hM hP.1.2.2.1 (fun k a j => lo1 k (Or.inl a) j)
    refine n_house (d := d + 14) hM1 hP ?_ ?_ ?_
    · intro e0
      exfalso; first | contradiction | omega | (simp only [isG, isP] at *; omega)
    · intro e0 e1 c2 lo2 hM2
      exact ⟨rfl, LI_mk hC1 lo2 hM2 (IL_x0 hl) (ir_70 lo1 h70) (ir_70 lo1 h71)⟩
    · intro e0 e1 c2 lo2 hM2
      exfalso; first | contradiction | omega | (simp only [isG, isP] at *; omega)
  · intro g0 g1 c1 lo1 hC1
    have hM1 := MSR_lo hM hP.1.2.2.1 (fun k a j => lo1 k (Or.inl a) j)
    refine n_house (d := d + 14) hM1 hP ?_ ?_ ?_
    · intro e0
      exfalso; first | contradiction | omega | (simp only [isG, isP] at *; omega)
    · intro e0 e1 c2 lo2 hM2
      exfalso; first | contradiction | omega | (simp only [isG, isP] at *; omega)
    · intro e0 e1 c2 lo2 hM2
      exact ⟨rfl, LI_mk hC1 lo2 hM2 (IL_x0 (IL_x0 hl)) (ir_70 lo1 h70) (ir_70 lo1 h71)⟩
theorem p_told {K : SK} {d : Nat} {c : ct} (hL : LI c) {w : Int} (hw : ir w) : CI K (d + 24) mX8_told [(2, 0), (0, w)] c (fun c1 r1 => CI K (d + 24) mX9_told [(2, 108), (0, w)] c1 (fun c2 r2 => r1 = r2 ∧ LI c2)) := by
  obtain ⟨H, N, I, X, hC, hM, hl, h70, h71⟩ := hL
  have hP := CSR_PU hC
  refine o_told (d := d + 19) hC hw ?_
  · skip
    have hM1 := hM
    refine n_told (d := d + 17) hM1 hP hw ?_
    · intro c2 lo2 hM2
      exact ⟨rfl, LI_mk hC lo2 hM2 (hl) h70 h71⟩
theorem p_pass {K : SK} {d : Nat} {c : ct} (hL : LI c) {n : Int} (hn : ir n) : CI K (d + 24) mX8_pass [(2, 0), (0, n)] c (fun c1 r1 => CI K (d + 24) mX9_pass [(2, 108), (0, n)] c1 (fun c2 r2 => r1 = r2 ∧ LI c2)) := by
  obtain ⟨H, N, I, X, hC, hM, hl, h70, h71⟩ := hL
  have hP := CSR_PU hC
  refine o_pass (d := d + 18) hC hn ?_ ?_ ?_
  · intro g0
    have hM1 := hM
    refine n_pass (d := d + 17) hM1 hP hn ?_ ?_ ?_
    · intro e0
      exact ⟨rfl, LI_mk hC loM.rf hM1 (hl) h70 h71⟩
    · intro e0 e1 e2
      exfalso; first | contradiction | omega | (simp only [isG, isP] at *; omega)
    · intro c2 e0 e1 e2 lo2 hM2
      exfalso; first | contradiction | omega | (simp only [isG, isP] at *; omega)
  · intro g0 g1 g2
    have hM1 := hM
    refine n_pass (d := d + 17) hM1 hP hn ?_ ?_ ?_
    · intro e0
      exfalso; first | contradiction | omega | (simp only [isG, isP] at *; omega)
    · intro e0 e1 e2
      exact ⟨rfl, LI_mk hC loM.rf hM1 (hl) h70 h71⟩
    · intro c2 e0 e1 e2 lo2 hM2
      exfalso; first | contradiction | omega | (simp only [isG, isP] at *; omega)
  · intro c1 g0 g1 g2 lo1 hC1
    have hM1 := MSR_lo hM hP.1.2.2.1 (fun k a j => lo1 k (Or.inl a) j)
    refine n_pass (d := d + 17) hM1 hP hn ?_ ?_ ?_
    · intro e0
      exfalso; first | contradiction | omega | (simp only [isG, isP] at *; omega)
    · intro e0 e1 e2
      exfalso; first | contradiction | omega | (simp only [isG, isP] at *; omega)
    · intro c2 e0 e1 e2 lo2 hM2
      exact ⟨rfl, LI_mk hC1 lo2 hM2 (hl) (ir_70 lo1 h70) (ir_70 lo1 h71)⟩
theorem p_on {K : SK} {d : Nat} {c : ct} (hL : LI c) {n w : Int} (hn : ir n) (hw : ir w) : CI K (d + 24) mX8_on [(2, 0), (0, n), (0, w)] c (fun c1 r1 => CI K (d + 24) mX9_on [(2, 108), (0, n), (0, w)] c1 (fun c2 r2 => r1 = r2 ∧ LI c2)) := by
  obtain ⟨H, N, I, X, hC, hM, hl, h70, h71⟩ := hL
  have hP := CSR_PU hC
  refine o_on (d := d + 18) hC hn hw ?_ ?_ ?_
  · intro g0
    have hM1 := hM
    refine n_on (d := d + 16) hM1 hP hn hw ?_ ?_ ?_
    · intro e0
      exact ⟨rfl, LI_mk hC loM.rf hM1 (hl) h70 h71⟩
    · intro e0 e1
      exfalso; first | contradiction | omega | (simp only [isG, isP] at *; omega)
    · intro c2 e0 e1 e2 lo2 hM2
      exfalso; first | contradiction | omega | (simp only [isG, isP] at *; omega)
  · intro g0 g1
    have hM1 := hM
    refine n_on (d := d + 16) hM1 hP hn hw ?_ ?_ ?_
    · intro e0
      exfalso; first | contradiction | omega | (simp only [isG, isP] at *; omega)
    · intro e0 e1
      exact ⟨rfl, LI_mk hC loM.rf hM1 (hl) h70 h71⟩
    · intro c2 e0 e1 e2 lo2 hM2
      exfalso; first | contradiction | omega | (simp only [isG, isP] at *; omega)
  · intro c1 g0 g1 g2 lo1 hC1
    have hM1 := MSR_lo hM hP.1.2.2.1 (fun k a j => lo1 k (Or.inl a) j)
    refine n_on (d := d + 16) hM1 hP hn hw ?_ ?_ ?_
    · intro e0
      exfalso; first | contradiction | omega | (simp only [isG, isP] at *; omega)
    · intro e0 e1
      exfalso; first | contradiction | omega | (simp only [isG, isP] at *; omega)
    · intro c2 e0 e1 e2 lo2 hM2
      exact ⟨rfl, LI_mk hC1 lo2 hM2 (hl) (ir_70 lo1 h70) (ir_70 lo1 h71)⟩
theorem p_soon {K : SK} {d : Nat} {c : ct} (hL : LI c) {q : Int} (hq : ir q) : CI K (d + 24) mX8_soon [(2, 0), (0, q)] c (fun c1 r1 => CI K (d + 24) mX9_soon [(2, 108), (0, q)] c1 (fun c2 r2 => r1 = r2 ∧ LI c2)) := by
  obtain ⟨H, N, I, X, hC, hM, hl, h70, h71⟩ := hL
  have hP := CSR_PU hC
  refine o_soon (d := d + 18) hC hq ?_ ?_
  · intro g0
    have hM1 := hM
    refine n_soon (d := d + 17) hM1 hP hq ?_ ?_
    · intro e0
      exact ⟨rfl, LI_mk hC loM.rf hM1 (hl) h70 h71⟩
    · intro c2 e0 e1 lo2 hM2
      exfalso; first | contradiction | omega | (simp only [isG, isP] at *; omega)
  · intro c1 g0 g1 lo1 hC1
    have hM1 := MSR_lo hM hP.1.2.2.1 (fun k a j => lo1 k (Or.inl a) j)
    refine n_soon (d := d + 17) hM1 hP hq ?_ ?_
    · intro e0
      exfalso; first | contradiction | omega | (simp only [isG, isP] at *; omega)
    · intro c2 e0 e1 lo2 hM2
      exact ⟨rfl, LI_mk hC1 lo2 hM2 (hl) (ir_70 lo1 h70) (ir_70 lo1 h71)⟩
theorem p_best {K : SK} {d : Nat} {c : ct} (hL : LI c) {w : Int} (hw : ir w) : CI K (d + 24) mX8_best [(2, 0), (0, w)] c (fun c1 r1 => CI K (d + 24) mX9_best [(2, 108), (0, w)] c1 (fun c2 r2 => r1 = r2 ∧ LI c2)) := by
  obtain ⟨H, N, I, X, hC, hM, hl, h70, h71⟩ := hL
  have hP := CSR_PU hC
  refine o_best (d := d + 4) hC h70 h71 hw ?_ ?_
  · intro g0
    have hM1 := hM
    refine n_best (d := d + 17) (B0 := iniB c) hM1 hP rfl hw ?_ ?_
    · intro e0
      exact ⟨rfl, LI_mk hC loM.rf hM1 (hl) h70 h71⟩
    · intro c2 e0 lo2 hM2
      exfalso; first | contradiction | omega | (simp only [isG, isP] at *; omega)
  · intro c1 g0 lo1 i70 i71 hC1
    have hM1 := MSR_lo hM hP.1.2.2.1 lo1
    refine n_best (d := d + 17) (B0 := iniB c) hM1 hP rfl hw ?_ ?_
    · intro e0
      exfalso; first | contradiction | omega | (simp only [isG, isP] at *; omega)
    · intro c2 e0 lo2 hM2
      exact ⟨rfl, LI_mk hC1 lo2 hM2 (hl) i70 i71⟩
theorem p_peace {K : SK} {d : Nat} {c : ct} (hL : LI c) {w : Int} (hw : ir w) : CI K (d + 24) mX8_peace [(2, 0), (0, w)] c (fun c1 r1 => CI K (d + 24) mX9_peace [(2, 108), (0, w)] c1 (fun c2 r2 => r1 = r2 ∧ LI c2)) := by
  obtain ⟨H, N, I, X, hC, hM, hl, h70, h71⟩ := hL
  have hP := CSR_PU hC
  refine o_peace (d := d + 4) hC h70 h71 hw ?_ ?_
  · intro g0
    have hM1 := hM
    refine n_peace (d := d + 17) (B0 := iniB c) hM1 hP rfl hw ?_ ?_
    · intro e0
      exact ⟨rfl, LI_mk hC loM.rf hM1 (hl) h70 h71⟩
    · intro c2 e0 lo2 hM2
      exfalso; first | contradiction | omega | (simp only [isG, isP] at *; omega)
  · intro c1 g0 lo1 i70 i71 hC1
    have hM1 := MSR_lo hM hP.1.2.2.1 lo1
    refine n_peace (d := d + 17) (B0 := iniB c) hM1 hP rfl hw ?_ ?_
    · intro e0
      exfalso; first | contradiction | omega | (simp only [isG, isP] at *; omega)
    · intro c2 e0 lo2 hM2
      exact ⟨rfl, LI_mk hC1 lo2 hM2 (hl) i70 i71⟩
theorem p_change {K : SK} {d : Nat} {c : ct} (hL : LI c)  : CI K (d + 24) mX8_change [(2, 0)] c (fun c1 r1 => CI K (d + 24) mX9_change [(2, 108)] c1 (fun c2 r2 => r1 = r2 ∧ LI c2)) := by
  obtain ⟨H, N, I, X, hC, hM, hl, h70, h71⟩ := hL
  have hP := CSR_PU hC
  refine o_change (d := d + 19) hC ?_
  · intro c1 lo1 hC1
    have hM1 := MSR_lo hM hP.1.2.2.1 (fun k a j => lo1 k (Or.inl a) j)
    refine n_change (d := d + 17) hM1 hP ?_
    · intro c2 lo2 hM2
      exact ⟨rfl, LI_mk hC1 lo2 hM2 (hl) (ir_70 lo1 h70) (ir_70 lo1 h71)⟩
theorem p_seat {K : SK} {d : Nat} {c : ct} (hL : LI c) {p : Int} (hp : ir p) : CI K (d + 24) mX8_seat [(2, 0), (0, p)] c (fun c1 r1 => CI K (d + 24) mX9_seat [(2, 108), (0, p)] c1 (fun c2 r2 => r1 = r2 ∧ LI c2)) := by
  obtain ⟨H, N, I, X, hC, hM, hl, h70, h71⟩ := hL
  have hP := CSR_PU hC
  refine o_seat (d := d + 20) hC hp ?_ ?_
  · intro g0
    have hM1 := hM
    refine n_seat (d := d + 19) hM1 hP hp ?_ ?_
    · intro e0
      exact ⟨rfl, LI_mk hC loM.rf hM1 (hl) h70 h71⟩
    · intro c2 e0 lo2 hM2
      exfalso; first | contradiction | omega | (simp only [isG, isP] at *; omega)
  · intro c1 g0 lo1 hC1
    have hM1 := MSR_lo hM hP.1.2.2.1 (fun k a j => lo1 k (Or.inl a) j)
    refine n_seat (d := d + 19) hM1 hP hp ?_ ?_
    · intro e0
      exfalso; first | contradiction | omega | (simp only [isG, isP] at *; omega)
    · intro c2 e0 lo2 hM2
      exact ⟨rfl, LI_mk hC1 lo2 hM2 (hl) (ir_70 lo1 h70) (ir_70 lo1 h71)⟩
theorem p_see {K : SK} {d : Nat} {c : ct} (hL : LI c) {p e n : Int} (hp : ir p) (he : e = 0 ∨ e = 1) (hn : ir n) : CI K (d + 24) mX8_see [(2, 0), (0, p), (0, e), (0, n)] c (fun c1 r1 => CI K (d + 24) mX9_see [(2, 108), (0, p), (0, e), (0, n)] c1 (fun c2 r2 => r1 = r2 ∧ LI c2)) := by
  obtain ⟨H, N, I, X, hC, hM, hl, h70, h71⟩ := hL
  have hP := CSR_PU hC
  refine o_see (d := d + 22) hC hp he hn ?_ ?_ ?_ ?_ ?_
  · intro c1 g0 lo1 hC1
    have hM1 := MSR_lo hM hP.1.2.2.1 (fun k a j => lo1 k (Or.inl a) j)
    refine n_see (d := d + 21) hM1 hP hp he hn ?_ ?_ ?_ ?_ ?_
    · intro c2 e0 lo2 hM2
      exact ⟨rfl, LI_mk hC1 lo2 hM2 (hl) (ir_70 lo1 h70) (ir_70 lo1 h71)⟩
    · intro e0 e1
      exfalso; first | contradiction | omega | (simp only [isG, isP] at *; omega)
    · intro e0 e1
      exfalso; first | contradiction | omega | (simp only [isG, isP] at *; omega)
    · intro e0 e1 e2 e3
      exfalso; first | contradiction | omega | (simp only [isG, isP] at *; omega)
    · intro c2 e0 e1 e2 e3 lo2 hM2
      exfalso; first | contradiction | omega | (simp only [isG, isP] at *; omega)
  · intro g0 g1
    have hM1 := hM
    refine n_see (d := d + 21) hM1 hP hp he hn ?_ ?_ ?_ ?_ ?_
    · intro c2 e0 lo2 hM2
      exfalso; first | contradiction | omega | (simp only [isG, isP] at *; omega)
    · intro e0 e1
      exact ⟨rfl, LI_mk hC loM.rf hM1 (hl) h70 h71⟩
    · intro e0 e1
      exfalso; first | contradiction | omega | (simp only [isG, isP] at *; omega)
    · intro e0 e1 e2 e3
      exfalso; first | contradiction | omega | (simp only [isG, isP] at *; omega)
    · intro c2 e0 e1 e2 e3 lo2 hM2
      exfalso; first | contradiction | omega | (simp only [isG, isP] at *; omega)
  · intro g0 g1
    have hM1 := hM
    refine n_see (d := d + 21) hM1 hP hp he hn ?_ ?_ ?_ ?_ ?_
    · intro c2 e0 lo2 hM2
      exfalso; first | contradiction | omega | (simp only [isG, isP] at *; omega)
    · intro e0 e1
      exfalso; first | contradiction | omega | (simp only [isG, isP] at *; omega)
    · intro e0 e1
      exact ⟨rfl, LI_mk hC loM.rf hM1 (hl) h70 h71⟩
    · intro e0 e1 e2 e3
      exfalso; first | contradiction | omega | (simp only [isG, isP] at *; omega)
    · intro c2 e0 e1 e2 e3 lo2 hM2
      exfalso; first | contradiction | omega | (simp only [isG, isP] at *; omega)
  · intro g0 g1 g2 g3
    have hM1 := hM
    refine n_see (d := d + 21) hM1 hP hp he hn ?_ ?_ ?_ ?_ ?_
    · intro c2 e0 lo2 hM2
      exfalso; first | contradiction | omega | (simp only [isG, isP] at *; omega)
    · intro e0 e1
      exfalso; first | contradiction | omega | (simp only [isG, isP] at *; omega)
    · intro e0 e1
      exfalso; first | contradiction | omega | (simp only [isG, isP] at *; omega)
    · intro e0 e1 e2 e3
      exact ⟨rfl, LI_mk hC loM.rf hM1 (hl) h70 h71⟩
    · intro c2 e0 e1 e2 e3 lo2 hM2
      exfalso; first | contradiction | omega | (simp only [isG, isP] at *; omega)
  · intro c1 g0 g1 g2 g3 lo1 hC1
    have hM1 := MSR_lo hM hP.1.2.2.1 (fun k a j => lo1 k (Or.inl a) j)
    refine n_see (d := d + 21) hM1 hP hp he hn ?_ ?_ ?_ ?_ ?_
    · intro c2 e0 lo2 hM2
      exfalso; first | contradiction | omega | (simp only [isG, isP] at *; omega)
    · intro e0 e1
      exfalso; first | contradiction | omega | (simp only [isG, isP] at *; omega)
    · intro e0 e1
      exfalso; first | contradiction | omega | (simp only [isG, isP] at *; omega)
    · intro e0 e1 e2 e3
      exfalso; first | contradiction | omega | (simp only [isG, isP] at *; omega)
    · intro c2 e0 e1 e2 e3 lo2 hM2
      exact ⟨rfl, LI_mk hC1 lo2 hM2 (hl) (ir_70 lo1 h70) (ir_70 lo1 h71)⟩
theorem p_where {K : SK} {d : Nat} {c : ct} (hL : LI c) {p : Int} (hp : ir p) : CI K (d + 24) mX8_where [(2, 0), (0, p)] c (fun c1 r1 => CI K (d + 24) mX9_where [(2, 108), (0, p)] c1 (fun c2 r2 => r1 = r2 ∧ LI c2)) := by
  obtain ⟨H, N, I, X, hC, hM, hl, h70, h71⟩ := hL
  have hP := CSR_PU hC
  refine o_where (d := d + 17) hC hp ?_ ?_
  · intro g0
    have hM1 := hM
    refine n_where (d := d + 15) hM1 hP hp ?_ ?_
    · intro e0
      exact ⟨rfl, LI_mk hC loM.rf hM1 (hl) h70 h71⟩
    · intro c2 e0 lo2 hM2
      exfalso; first | contradiction | omega | (simp only [isG, isP] at *; omega)
  · intro c1 g0 lo1 hC1
    have hM1 := MSR_lo hM hP.1.2.2.1 (fun k a j => lo1 k (Or.inl a) j)
    refine n_where (d := d + 15) hM1 hP hp ?_ ?_
    · intro e0
      exfalso; first | contradiction | omega | (simp only [isG, isP] at *; omega)
    · intro c2 e0 lo2 hM2
      exact ⟨rfl, LI_mk hC1 lo2 hM2 (hl) (ir_70 lo1 h70) (ir_70 lo1 h71)⟩
theorem p_can {K : SK} {d : Nat} {c : ct} (hL : LI c) {p w : Int} (hp : ir p) (hw : ir w) : CI K (d + 24) mX8_can [(2, 0), (0, p), (0, w)] c (fun c1 r1 => CI K (d + 24) mX9_can [(2, 108), (0, p), (0, w)] c1 (fun c2 r2 => r1 = r2 ∧ LI c2)) := by
  obtain ⟨H, N, I, X, hC, hM, hl, h70, h71⟩ := hL
  have hP := CSR_PU hC
  refine o_can (d := d + 17) hC hp hw ?_ ?_
  · intro g0
    have hM1 := hM
    refine n_can (d := d + 15) hM1 hP hp hw ?_ ?_
    · intro e0
      exact ⟨rfl, LI_mk hC loM.rf hM1 (hl) h70 h71⟩
    · intro c2 e0 e1 e2 lo2 hM2
      exfalso; first | contradiction | omega | (simp only [isG, isP] at *; omega)
  · intro c1 g0 g1 g2 lo1 hC1
    have hM1 := MSR_lo hM hP.1.2.2.1 (fun k a j => lo1 k (Or.inl a) j)
    refine n_can (d := d + 15) hM1 hP hp hw ?_ ?_
    · intro e0
      exfalso; first | contradiction | omega | (simp only [isG, isP] at *; omega)
    · intro c2 e0 e1 e2 lo2 hM2
      exact ⟨rfl, LI_mk hC1 lo2 hM2 (hl) (ir_70 lo1 h70) (ir_70 lo1 h71)⟩
theorem p_odds {K : SK} {d : Nat} {c : ct} (hL : LI c) {q w : Int} (hq : ir q) (hw : ir w) : CL K (d + 24) mX8_odds [(2, 0), (0, q), (0, w)] c (fun c1 r1 => CL K (d + 24) mX9_odds [(2, 108), (0, q), (0, w)] c1 (fun c2 r2 => r1 = r2 ∧ LI c2)) := by
  obtain ⟨H, N, I, X, hC, hM, hl, h70, h71⟩ := hL
  have hP := CSR_PU hC
  refine o_odds (d := d + 19) hC hq hw ?_ ?_
  · intro c1 g0 lo1 hC1
    have hM1 := MSR_lo hM hP.1.2.2.1 (fun k a j => lo1 k (Or.inl a) j)
    refine n_odds (d := d + 17) hM1 hP hq hw ?_ ?_
    · intro e0
      exact ⟨rfl, LI_mk hC1 loM.rf hM1 (hl) (ir_70 lo1 h70) (ir_70 lo1 h71)⟩
    · intro c2 e0 e1 e2 e3 e4 lo2 hM2
      exfalso; first | contradiction | omega | (simp only [isG, isP] at *; omega)
  · intro c1 g0 g1 g2 g3 g4 lo1 hC1
    have hM1 := MSR_lo hM hP.1.2.2.1 (fun k a j => lo1 k (Or.inl a) j)
    refine n_odds (d := d + 17) hM1 hP hq hw ?_ ?_
    · intro e0
      exfalso; first | contradiction | omega | (simp only [isG, isP] at *; omega)
    · intro c2 e0 e1 e2 e3 e4 lo2 hM2
      exact ⟨rfl, LI_mk hC1 lo2 hM2 (hl) (ir_70 lo1 h70) (ir_70 lo1 h71)⟩
theorem p_mean {K : SK} {d : Nat} {c : ct} (hL : LI c) {w : Int} (hw : ir w) : CL K (d + 24) mX8_mean [(2, 0), (0, w)] c (fun c1 r1 => CL K (d + 24) mX9_mean [(2, 108), (0, w)] c1 (fun c2 r2 => r1 = r2 ∧ LI c2)) := by
  obtain ⟨H, N, I, X, hC, hM, hl, h70, h71⟩ := hL
  have hP := CSR_PU hC
  refine o_mean (d := d + 19) hC hw ?_ ?_
  · intro g0
    have hM1 := hM
    refine n_mean (d := d + 17) hM1 hP hw ?_ ?_
    · intro e0
      exact ⟨rfl, LI_mk hC loM.rf hM1 (hl) h70 h71⟩
    · intro c2 e0 e1 e2 lo2 hM2
      exfalso; first | contradiction | omega | (simp only [isG, isP] at *; omega)
  · intro g0 g1 g2
    have hM1 := hM
    refine n_mean (d := d + 17) hM1 hP hw ?_ ?_
    · intro e0
      exfalso; first | contradiction | omega | (simp only [isG, isP] at *; omega)
    · intro c2 e0 e1 e2 lo2 hM2
      exact ⟨rfl, LI_mk hC lo2 hM2 (hl) h70 h71⟩
theorem p_plan {K : SK} {d : Nat} {c : ct} (hL : LI c) {w n : Int} (hw : ir w) (hn : ir n) : CI K (d + 24) mX8_plan [(2, 0), (0, w), (0, n)] c (fun c1 r1 => CI K (d + 24) mX9_plan [(2, 108), (0, w), (0, n)] c1 (fun c2 r2 => r1 = r2 ∧ LI c2)) := by
  obtain ⟨H, N, I, X, hC, hM, hl, h70, h71⟩ := hL
  have hP := CSR_PU hC
  refine o_plan (d := d + 22) hC hw hn ?_ ?_ ?_ ?_
  · intro c1 g0 lo1 hC1
    have hM1 := MSR_lo hM hP.1.2.2.1 (fun k a j => lo1 k (Or.inl a) j)
    refine n_plan (d := d + 21) hM1 hP hw hn ?_ ?_ ?_ ?_
    · intro c2 e0 lo2 hM2
      exact ⟨rfl, LI_mk hC1 lo2 hM2 (hl) (ir_70 lo1 h70) (ir_70 lo1 h71)⟩
    · intro e0 e1
      exfalso; first | contradiction | omega | (simp only [isG, isP] at *; omega)
    · intro e0 e1
      exfalso; first | contradiction | omega | (simp only [isG, isP] at *; omega)
    · intro c2 e0 e1 lo2 hM2
      exfalso; first | contradiction | omega | (simp only [isG, isP] at *; omega)
  · intro g0 g1
    have hM1 := hM
    refine n_plan (d := d + 21) hM1 hP hw hn ?_ ?_ ?_ ?_
    · intro c2 e0 lo2 hM2
      exfalso; first | contradiction | omega | (simp only [isG, isP] at *; omega)
    · intro e0 e1
      exact ⟨rfl, LI_mk hC loM.rf hM1 (hl) h70 h71⟩
    · intro e0 e1
      exfalso; first | contradiction | omega | (simp only [isG, isP] at *; omega)
    · intro c2 e0 e1 lo2 hM2
      exfalso; first | contradiction | omega | (simp only [isG, isP] at *; omega)
  · intro g0 g1
    have hM1 := hM
    refine n_plan (d := d + 21) hM1 hP hw hn ?_ ?_ ?_ ?_
    · intro c2 e0 lo2 hM2
      exfalso; first | contradiction | omega | (simp only [isG, isP] at *; omega)
    · intro e0 e1
      exfalso; first | contradiction | omega | (simp only [isG, isP] at *; omega)
    · intro e0 e1
      exact ⟨rfl, LI_mk hC loM.rf hM1 (hl) h70 h71⟩
    · intro c2 e0 e1 lo2 hM2
      exfalso; first | contradiction | omega | (simp only [isG, isP] at *; omega)
  · intro c1 g0 g1 lo1 hC1
    have hM1 := MSR_lo hM hP.1.2.2.1 (fun k a j => lo1 k (Or.inl a) j)
    refine n_plan (d := d + 21) hM1 hP hw hn ?_ ?_ ?_ ?_
    · intro c2 e0 lo2 hM2
      exfalso; first | contradiction | omega | (simp only [isG, isP] at *; omega)
    · intro e0 e1
      exfalso; first | contradiction | omega | (simp only [isG, isP] at *; omega)
    · intro e0 e1
      exfalso; first | contradiction | omega | (simp only [isG, isP] at *; omega)
    · intro c2 e0 e1 lo2 hM2
      exact ⟨rfl, LI_mk hC1 lo2 hM2 (hl) (ir_70 lo1 h70) (ir_70 lo1 h71)⟩
theorem p_ends {K : SK} {d : Nat} {c : ct} (hL : LI c) {w : Int} (hw : ir w) : CI K (d + 24) mX8_ends [(2, 0), (0, w)] c (fun c1 r1 => CI K (d + 24) mX9_ends [(2, 108), (0, w)] c1 (fun c2 r2 => r1 = r2 ∧ LI c2)) := by
  obtain ⟨H, N, I, X, hC, hM, hl, h70, h71⟩ := hL
  have hP := CSR_PU hC
  refine o_ends (d := d + 17) hC hw ?_ ?_
  · intro g0
    have hM1 := hM
    refine n_ends (d := d + 17) hM1 hP hw ?_ ?_
    · intro e0
      exact ⟨rfl, LI_mk hC loM.rf hM1 (hl) h70 h71⟩
    · intro c2 e0 e1 lo2 hM2
      exfalso; first | contradiction | omega | (simp only [isG, isP] at *; omega)
  · intro c1 g0 g1 lo1 hC1
    have hM1 := MSR_lo hM hP.1.2.2.1 (fun k a j => lo1 k (Or.inl a) j)
    refine n_ends (d := d + 17) hM1 hP hw ?_ ?_
    · intro e0
      exfalso; first | contradiction | omega | (simp only [isG, isP] at *; omega)
    · intro c2 e0 e1 lo2 hM2
      exact ⟨rfl, LI_mk hC1 lo2 hM2 (hl) (ir_70 lo1 h70) (ir_70 lo1 h71)⟩
theorem p_book {K : SK} {d : Nat} {c : ct} (hL : LI c) {p s : Int} (hp : ir p) (hs : ir s) : CI K (d + 24) mX8_book [(2, 0), (0, p), (0, s)] c (fun c1 r1 => CI K (d + 24) mX9_book [(2, 108), (0, p), (0, s)] c1 (fun c2 r2 => r1 = r2 ∧ LI c2)) := by
  obtain ⟨H, N, I, X, hC, hM, hl, h70, h71⟩ := hL
  have hP := CSR_PU hC
  refine o_book (d := d + 22) hC hp hs ?_ ?_ ?_ ?_
  · intro c1 g0 lo1 hC1
    have hM1 := MSR_lo hM hP.1.2.2.1 (fun k a j => lo1 k (Or.inl a) j)
    refine n_book (d := d + 21) hM1 hP hp hs ?_ ?_ ?_ ?_
    · intro c2 e0 lo2 hM2
      exact ⟨rfl, LI_mk hC1 lo2 hM2 (hl) (ir_70 lo1 h70) (ir_70 lo1 h71)⟩
    · intro e0 e1
      exfalso; first | contradiction | omega | (simp only [isG, isP] at *; omega)
    · intro e0 e1 e2 e3
      exfalso; first | contradiction | omega | (simp only [isG, isP] at *; omega)
    · intro c2 e0 e1 e2 e3 lo2 hM2
      exfalso; first | contradiction | omega | (simp only [isG, isP] at *; omega)
  · intro g0 g1
    have hM1 := hM
    refine n_book (d := d + 21) hM1 hP hp hs ?_ ?_ ?_ ?_
    · intro c2 e0 lo2 hM2
      exfalso; first | contradiction | omega | (simp only [isG, isP] at *; omega)
    · intro e0 e1
      exact ⟨rfl, LI_mk hC loM.rf hM1 (hl) h70 h71⟩
    · intro e0 e1 e2 e3
      exfalso; first | contradiction | omega | (simp only [isG, isP] at *; omega)
    · intro c2 e0 e1 e2 e3 lo2 hM2
      exfalso; first | contradiction | omega | (simp only [isG, isP] at *; omega)
  · intro g0 g1 g2 g3
    have hM1 := hM
    refine n_book (d := d + 21) hM1 hP hp hs ?_ ?_ ?_ ?_
    · intro c2 e0 lo2 hM2
      exfalso; first | contradiction | omega | (simp only [isG, isP] at *; omega)
    · intro e0 e1
      exfalso; first | contradiction | omega | (simp only [isG, isP] at *; omega)
    · intro e0 e1 e2 e3
      exact ⟨rfl, LI_mk hC loM.rf hM1 (hl) h70 h71⟩
    · intro c2 e0 e1 e2 e3 lo2 hM2
      exfalso; first | contradiction | omega | (simp only [isG, isP] at *; omega)
  · intro c1 g0 g1 g2 g3 lo1 hC1
    have hM1 := MSR_lo hM hP.1.2.2.1 (fun k a j => lo1 k (Or.inl a) j)
    refine n_book (d := d + 21) hM1 hP hp hs ?_ ?_ ?_ ?_
    · intro c2 e0 lo2 hM2
      exfalso; first | contradiction | omega | (simp only [isG, isP] at *; omega)
    · intro e0 e1
      exfalso; first | contradiction | omega | (simp only [isG, isP] at *; omega)
    · intro e0 e1 e2 e3
      exfalso; first | contradiction | omega | (simp only [isG, isP] at *; omega)
    · intro c2 e0 e1 e2 e3 lo2 hM2
      exact ⟨rfl, LI_mk hC1 lo2 hM2 (hl) (ir_70 lo1 h70) (ir_70 lo1 h71)⟩
theorem p_looked {K : SK} {d : Nat} {c : ct} (hL : LI c)  : CI K (d + 24) mX8_looked [(2, 0)] c (fun c1 r1 => CI K (d + 24) mX9_looked [(2, 108)] c1 (fun c2 r2 => r1 = r2 ∧ LI c2)) := by
  obtain ⟨H, N, I, X, hC, hM, hl, h70, h71⟩ := hL
  have hP := CSR_PU hC
  refine o_looked (d := d + 22) hC ?_
  · skip
    have hM1 := hM
    refine n_looked (d := d + 23) hM1 hP ?_
    · skip
      exact ⟨rfl, LI_mk hC loM.rf hM1 (hl) h70 h71⟩
theorem p_judge {K : SK} {d : Nat} {c : ct} (hL : LI c) {t i : Int} (ht : ir t) (hi : ir i) : CI K (d + 24) mX8_judge [(2, 0), (0, t), (0, i)] c (fun c1 r1 => CI K (d + 24) mX9_judge [(2, 108), (0, t), (0, i)] c1 (fun c2 r2 => r1 = r2 ∧ LI c2)) := by
  obtain ⟨H, N, I, X, hC, hM, hl, h70, h71⟩ := hL
  have hP := CSR_PU hC
  refine o_judge (d := d + 22) hC hl ht hi ?_ ?_ ?_
  · intro g0
    have hM1 := hM
    refine n_judge (d := d + 21) hM1 hP hl ht hi ?_ ?_ ?_
    · intro e0
      exact ⟨rfl, LI_mk hC loM.rf hM1 (hl) h70 h71⟩
    · intro e0 e1 e2
      exfalso; first | contradiction | omega | (simp only [isG, isP] at *; omega)
    · intro e0 e1 e2
      exfalso; first | contradiction | omega | (simp only [isG, isP] at *; omega)
  · intro g0 g1 g2
    have hM1 := hM
    refine n_judge (d := d + 21) hM1 hP hl ht hi ?_ ?_ ?_
    · intro e0
      exfalso; first | contradiction | omega | (simp only [isG, isP] at *; omega)
    · intro e0 e1 e2
      exact ⟨rfl, LI_mk hC loM.rf hM1 (hl) h70 h71⟩
    · intro e0 e1 e2
      exfalso; first | contradiction | omega | (simp only [isG, isP] at *; omega)
  · intro g0 g1 g2
    have hM1 := hM
    refine n_judge (d := d + 21) hM1 hP hl ht hi ?_ ?_ ?_
    · intro e0
      exfalso; first | contradiction | omega | (simp only [isG, isP] at *; omega)
    · intro e0 e1 e2
      exfalso; first | contradiction | omega | (simp only [isG, isP] at *; omega)
    · intro e0 e1 e2
      exact ⟨rfl, LI_mk hC loM.rf hM1 (hl) h70 h71⟩
theorem p_image {K : SK} {d : Nat} {c : ct} (hL : LI c)  : CI K (d + 24) mX8_image [(2, 0)] c (fun c1 r1 => CI K (d + 24) mX9_image [(2, 108)] c1 (fun c2 r2 => r1 = r2 ∧ LI c2)) := by
  obtain ⟨H, N, I, X, hC, hM, hl, h70, h71⟩ := hL
  have hP := CSR_PU hC
  refine o_image (d := d + 21) hC ?_
  · intro c1 lo1 hC1
    have hM1 := MSR_lo hM hP.1.2.2.1 (fun k a j => lo1 k (Or.inl a) j)
    refine n_image (d := d + 23) hM1 hP ?_
    · intro c2 lo2 hM2
      exact ⟨rfl, LI_mk hC1 lo2 hM2 (IL_x0 hl) (ir_70 lo1 h70) (ir_70 lo1 h71)⟩
theorem p_undo {K : SK} {d : Nat} {c : ct} (hL : LI c)  : CI K (d + 24) mX8_undo [(2, 0)] c (fun c1 r1 => CI K (d + 24) mX9_undo [(2, 108)] c1 (fun c2 r2 => r1 = r2 ∧ LI c2)) := by
  obtain ⟨H, N, I, X, hC, hM, hl, h70, h71⟩ := hL
  have hP := CSR_PU hC
  refine o_undo (d := d + 21) hC ?_ ?_
  · intro g0
    have hM1 := hM
    refine n_undo (d := d + 23) hM1 hP ?_ ?_
    · intro e0
      exact ⟨rfl, LI_mk hC loM.rf hM1 (hl) h70 h71⟩
    · intro c2 e0 lo2 hM2
      exfalso; first | contradiction | omega | (simp only [isG, isP] at *; omega)
  · intro c1 g0 lo1 hC1
    have hM1 := MSR_lo hM hP.1.2.2.1 (fun k a j => lo1 k (Or.inl a) j)
    refine n_undo (d := d + 23) hM1 hP ?_ ?_
    · intro e0
      exfalso; first | contradiction | omega | (simp only [isG, isP] at *; omega)
    · intro c2 e0 lo2 hM2
      exact ⟨rfl, LI_mk hC1 lo2 hM2 (hl) (ir_70 lo1 h70) (ir_70 lo1 h71)⟩
theorem p_act {K : SK} {d : Nat} {c : ct} (hL : LI c) {p a x : Int} (hp : ir p) (ha : ir a) : CI K (d + 24) mX8_act [(2, 0), (0, p), (0, a), (0, x)] c (fun c1 r1 => CI K (d + 24) mX9_act [(2, 108), (0, p), (0, a), (0, x)] c1 (fun c2 r2 => r1 = r2 ∧ LI c2)) := by
  obtain ⟨H, N, I, X, hC, hM, hl, h70, h71⟩ := hL
  have hP := CSR_PU hC
  refine o_act (d := d + 5) hC hp ha ?_ ?_
  · intro c1 g0 lo1 hC1
    have hM1 := MSR_lo hM hP.1.2.2.1 (fun k a j => lo1 k (Or.inl a) j)
    refine n_act (d := d + 15) hM1 hP hp ha ?_ ?_
    · intro c2 e0 lo2 hM2
      exact ⟨rfl, LI_mk hC1 lo2 hM2 (IL_x0 hl) (ir_70 lo1 h70) (ir_70 lo1 h71)⟩
    · intro c2 e0 e1 e2 lo2 hM2
      exfalso; first | contradiction | omega | (simp only [isG, isP] at *; omega)
  · intro c1 g0 g1 g2 lo1 hC1
    have hM1 := MSR_lo hM hP.1.2.2.1 (fun k a j => lo1 k (Or.inl a) j)
    refine n_act (d := d + 15) hM1 hP hp ha ?_ ?_
    · intro c2 e0 lo2 hM2
      exfalso; first | contradiction | omega | (simp only [isG, isP] at *; omega)
    · intro c2 e0 e1 e2 lo2 hM2
      exact ⟨rfl, LI_mk hC1 lo2 hM2 (IL_psh (IL_x0 hl)) (ir_70 lo1 h70) (ir_70 lo1 h71)⟩
theorem p_trace {K : SK} {d : Nat} {c : ct} (hL : LI c) {a : Int} (ha : ir a) : CI K (d + 24) mX8_trace [(2, 0), (0, a)] c (fun c1 r1 => CI K (d + 24) mX9_trace [(2, 108), (0, a)] c1 (fun c2 r2 => r1 = r2 ∧ LI c2)) := by
  obtain ⟨H, N, I, X, hC, hM, hl, h70, h71⟩ := hL
  have hP := CSR_PU hC
  refine o_trace (d := d + 22) hC ha ?_
  · skip
    have hM1 := hM
    refine n_trace (d := d + 22) hM1 hP ha ?_
    · skip
      exact ⟨rfl, LI_mk hC loM.rf hM1 (hl) h70 h71⟩
theorem p_taken {K : SK} {d : Nat} {c : ct} (hL : LI c) {p w : Int} (hp : ir p) (hw : ir w) : CI K (d + 24) mX8_taken [(2, 0), (0, p), (0, w)] c (fun c1 r1 => CI K (d + 24) mX9_taken [(2, 108), (0, p), (0, w)] c1 (fun c2 r2 => r1 = r2 ∧ LI c2)) := by
  obtain ⟨H, N, I, X, hC, hM, hl, h70, h71⟩ := hL
  have hP := CSR_PU hC
  refine o_taken (d := d + 22) hC hp hw ?_ ?_ ?_ ?_
  · intro g0
    have hM1 := hM
    refine n_taken (d := d + 21) hM1 hP hp hw ?_ ?_ ?_ ?_
    · intro e0
      exact ⟨rfl, LI_mk hC loM.rf hM1 (hl) h70 h71⟩
    · intro e0 e1 e2
      exfalso; first | contradiction | omega | (simp only [isG, isP] at *; omega)
    · intro e0 e1 e2 e3
      exfalso; first | contradiction | omega | (simp only [isG, isP] at *; omega)
    · intro e0 e1 e2 e3
      exfalso; first | contradiction | omega | (simp only [isG, isP] at *; omega)
  · intro g0 g1 g2
    have hM1 := hM
    refine n_taken (d := d + 21) hM1 hP hp hw ?_ ?_ ?_ ?_
    · intro e0
      exfalso; first | contradiction | omega | (simp only [isG, isP] at *; omega)
    · intro e0 e1 e2
      exact ⟨rfl, LI_mk hC loM.rf hM1 (hl) h70 h71⟩
    · intro e0 e1 e2 e3
      exfalso; first | contradiction | omega | (simp only [isG, isP] at *; omega)
    · intro e0 e1 e2 e3
      exfalso; first | contradiction | omega | (simp only [isG, isP] at *; omega)
  · intro g0 g1 g2 g3
    have hM1 := hM
    refine n_taken (d := d + 21) hM1 hP hp hw ?_ ?_ ?_ ?_
    · intro e0
      exfalso; first | contradiction | omega | (simp only [isG, isP] at *; omega)
    · intro e0 e1 e2
      exfalso; first | contradiction | omega | (simp only [isG, isP] at *; omega)
    · intro e0 e1 e2 e3
      exact ⟨rfl, LI_mk hC loM.rf hM1 (hl) h70 h71⟩
    · intro e0 e1 e2 e3
      exfalso; first | contradiction | omega | (simp only [isG, isP] at *; omega)
  · intro g0 g1 g2 g3
    have hM1 := hM
    refine n_taken (d := d + 21) hM1 hP hp hw ?_ ?_ ?_ ?_
    · intro e0
      exfalso; first | contradiction | omega | (simp only [isG, isP] at *; omega)
    · intro e0 e1 e2
      exfalso; first | contradiction | omega | (simp only [isG, isP] at *; omega)
    · intro e0 e1 e2 e3
      exfalso; first | contradiction | omega | (simp only [isG, isP] at *; omega)
    · intro e0 e1 e2 e3
      exact ⟨rfl, LI_mk hC loM.rf hM1 (hl) h70 h71⟩
theorem p_count {K : SK} {d : Nat} {c : ct} (hL : LI c) {w : Int} (hw : ir w) : CI K (d + 24) mX8_count [(2, 0), (0, w)] c (fun c1 r1 => CI K (d + 24) mX9_count [(2, 108), (0, w)] c1 (fun c2 r2 => r1 = r2 ∧ LI c2)) := by
  obtain ⟨H, N, I, X, hC, hM, hl, h70, h71⟩ := hL
  have hP := CSR_PU hC
  refine o_count (d := d + 23) hC hw ?_
  · skip
    have hM1 := hM
    refine n_count (d := d + 23) hM1 hw ?_
    · skip
      exact ⟨rfl, LI_mk hC loM.rf hM1 (hl) h70 h71⟩
theorem p_tape {K : SK} {d : Nat} {c : ct} (hL : LI c) {t s n : Int} (ht : ir t) (hs : ir s) (hn : ir n) : CI K (d + 24) mX8_tape [(2, 0), (0, t), (0, s), (0, n)] c (fun c1 r1 => CI K (d + 24) mX9_tape [(2, 108), (0, t), (0, s), (0, n)] c1 (fun c2 r2 => r1 = r2 ∧ LI c2)) := by
  obtain ⟨H, N, I, X, hC, hM, hl, h70, h71⟩ := hL
  have hP := CSR_PU hC
  refine o_tape (d := d + 22) hC ht hs hn ?_ ?_ ?_ ?_ ?_
  · intro g0
    have hM1 := hM
    refine n_tape (d := d + 21) hM1 hP ht hs hn ?_ ?_ ?_ ?_ ?_
    · intro e0
      exact ⟨rfl, LI_mk hC loM.rf hM1 (hl) h70 h71⟩
    · intro c2 e0 e1 e2 lo2 hM2
      exfalso; first | contradiction | omega | (simp only [isG, isP] at *; omega)
    · intro e0 e1 e2 e3
      exfalso; first | contradiction | omega | (simp only [isG, isP] at *; omega)
    · intro e0 e1 e2 e3 e4
      exfalso; first | contradiction | omega | (simp only [isG, isP] at *; omega)
    · intro c2 e0 e1 e2 e3 e4 e5 lo2 hM2
      exfalso; first | contradiction | omega | (simp only [isG, isP] at *; omega)
  · intro c1 g0 g1 g2 lo1 hC1
    have hM1 := MSR_lo hM hP.1.2.2.1 (fun k a j => lo1 k (Or.inl a) j)
    refine n_tape (d := d + 21) hM1 hP ht hs hn ?_ ?_ ?_ ?_ ?_
    · intro e0
      exfalso; first | contradiction | omega | (simp only [isG, isP] at *; omega)
    · intro c2 e0 e1 e2 lo2 hM2
      exact ⟨rfl, LI_mk hC1 lo2 hM2 (IL_tp hl (fun _ _ _ => il_0)) (ir_70 lo1 h70) (ir_70 lo1 h71)⟩
    · intro e0 e1 e2 e3
      exfalso; first | contradiction | omega | (simp only [isG, isP] at *; omega)
    · intro e0 e1 e2 e3 e4
      exfalso; first | contradiction | omega | (simp only [isG, isP] at *; omega)
    · intro c2 e0 e1 e2 e3 e4 e5 lo2 hM2
      exfalso; first | contradiction | omega | (simp only [isG, isP] at *; omega)
  · intro g0 g1 g2 g3
    have hM1 := hM
    refine n_tape (d := d + 21) hM1 hP ht hs hn ?_ ?_ ?_ ?_ ?_
    · intro e0
      exfalso; first | contradiction | omega | (simp only [isG, isP] at *; omega)
    · intro c2 e0 e1 e2 lo2 hM2
      exfalso; first | contradiction | omega | (simp only [isG, isP] at *; omega)
    · intro e0 e1 e2 e3
      exact ⟨rfl, LI_mk hC loM.rf hM1 (hl) h70 h71⟩
    · intro e0 e1 e2 e3 e4
      exfalso; first | contradiction | omega | (simp only [isG, isP] at *; omega)
    · intro c2 e0 e1 e2 e3 e4 e5 lo2 hM2
      exfalso; first | contradiction | omega | (simp only [isG, isP] at *; omega)
  · intro g0 g1 g2 g3 g4
    have hM1 := hM
    refine n_tape (d := d + 21) hM1 hP ht hs hn ?_ ?_ ?_ ?_ ?_
    · intro e0
      exfalso; first | contradiction | omega | (simp only [isG, isP] at *; omega)
    · intro c2 e0 e1 e2 lo2 hM2
      exfalso; first | contradiction | omega | (simp only [isG, isP] at *; omega)
    · intro e0 e1 e2 e3
      exfalso; first | contradiction | omega | (simp only [isG, isP] at *; omega)
    · intro e0 e1 e2 e3 e4
      exact ⟨rfl, LI_mk hC loM.rf hM1 (hl) h70 h71⟩
    · intro c2 e0 e1 e2 e3 e4 e5 lo2 hM2
      exfalso; first | contradiction | omega | (simp only [isG, isP] at *; omega)
  · intro c1 g0 g1 g2 g3 g4 g5 lo1 hC1
    have hM1 := MSR_lo hM hP.1.2.2.1 (fun k a j => lo1 k (Or.inl a) j)
    refine n_tape (d := d + 21) hM1 hP ht hs hn ?_ ?_ ?_ ?_ ?_
    · intro e0
      exfalso; first | contradiction | omega | (simp only [isG, isP] at *; omega)
    · intro c2 e0 e1 e2 lo2 hM2
      exfalso; first | contradiction | omega | (simp only [isG, isP] at *; omega)
    · intro e0 e1 e2 e3
      exfalso; first | contradiction | omega | (simp only [isG, isP] at *; omega)
    · intro e0 e1 e2 e3 e4
      exfalso; first | contradiction | omega | (simp only [isG, isP] at *; omega)
    · intro c2 e0 e1 e2 e3 e4 e5 lo2 hM2
      exact ⟨rfl, LI_mk hC1 lo2 hM2 (IL_tp hl (fun _ _ _ => il_0)) (ir_70 lo1 h70) (ir_70 lo1 h71)⟩
theorem p_item {K : SK} {d : Nat} {c : ct} (hL : LI c) {t i z : Int} (ht : ir t) (hi : ir i) (hz : il z) : CI K (d + 24) mX8_item [(2, 0), (0, t), (0, i), (1, z)] c (fun c1 r1 => CI K (d + 24) mX9_item [(2, 108), (0, t), (0, i), (1, z)] c1 (fun c2 r2 => r1 = r2 ∧ LI c2)) := by
  obtain ⟨H, N, I, X, hC, hM, hl, h70, h71⟩ := hL
  have hP := CSR_PU hC
  refine o_item (d := d + 21) hC ht hi hz ?_ ?_ ?_ ?_
  · intro g0
    have hM1 := hM
    refine n_item (d := d + 21) hM1 hP ht hi hz ?_ ?_ ?_ ?_
    · intro e0
      exact ⟨rfl, LI_mk hC loM.rf hM1 (hl) h70 h71⟩
    · intro e0 e1 e2
      exfalso; first | contradiction | omega | (simp only [isG, isP] at *; omega)
    · intro e0 e1 e2 e3
      exfalso; first | contradiction | omega | (simp only [isG, isP] at *; omega)
    · intro c2 e0 e1 e2 e3 e4 lo2 hM2
      exfalso; first | contradiction | omega | (simp only [isG, isP] at *; omega)
  · intro g0 g1 g2
    have hM1 := hM
    refine n_item (d := d + 21) hM1 hP ht hi hz ?_ ?_ ?_ ?_
    · intro e0
      exfalso; first | contradiction | omega | (simp only [isG, isP] at *; omega)
    · intro e0 e1 e2
      exact ⟨rfl, LI_mk hC loM.rf hM1 (hl) h70 h71⟩
    · intro e0 e1 e2 e3
      exfalso; first | contradiction | omega | (simp only [isG, isP] at *; omega)
    · intro c2 e0 e1 e2 e3 e4 lo2 hM2
      exfalso; first | contradiction | omega | (simp only [isG, isP] at *; omega)
  · intro g0 g1 g2 g3
    have hM1 := hM
    refine n_item (d := d + 21) hM1 hP ht hi hz ?_ ?_ ?_ ?_
    · intro e0
      exfalso; first | contradiction | omega | (simp only [isG, isP] at *; omega)
    · intro e0 e1 e2
      exfalso; first | contradiction | omega | (simp only [isG, isP] at *; omega)
    · intro e0 e1 e2 e3
      exact ⟨rfl, LI_mk hC loM.rf hM1 (hl) h70 h71⟩
    · intro c2 e0 e1 e2 e3 e4 lo2 hM2
      exfalso; first | contradiction | omega | (simp only [isG, isP] at *; omega)
  · intro c1 g0 g1 g2 g3 g4 lo1 hC1
    have hM1 := MSR_lo hM hP.1.2.2.1 (fun k a j => lo1 k (Or.inl a) j)
    refine n_item (d := d + 21) hM1 hP ht hi hz ?_ ?_ ?_ ?_
    · intro e0
      exfalso; first | contradiction | omega | (simp only [isG, isP] at *; omega)
    · intro e0 e1 e2
      exfalso; first | contradiction | omega | (simp only [isG, isP] at *; omega)
    · intro e0 e1 e2 e3
      exfalso; first | contradiction | omega | (simp only [isG, isP] at *; omega)
    · intro c2 e0 e1 e2 e3 e4 lo2 hM2
      exact ⟨rfl, LI_mk hC1 lo2 hM2 (IL_tp hl (fun y y0 y6 => by split; exact il_nr hz; exact hl t g0 g1 y y0 y6)) (ir_70 lo1 h70) (ir_70 lo1 h71)⟩
theorem p_read {K : SK} {d : Nat} {c : ct} (hL : LI c) {t i : Int} (ht : ir t) (hi : ir i) : CL K (d + 24) mX8_read [(2, 0), (0, t), (0, i)] c (fun c1 r1 => CL K (d + 24) mX9_read [(2, 108), (0, t), (0, i)] c1 (fun c2 r2 => r1 = r2 ∧ LI c2)) := by
  obtain ⟨H, N, I, X, hC, hM, hl, h70, h71⟩ := hL
  have hP := CSR_PU hC
  refine o_read (d := d + 22) hC ht hi ?_ ?_
  · intro g0
    have hM1 := hM
    refine n_read (d := d + 21) hM1 hP ht hi ?_ ?_
    · intro e0
      exact ⟨rfl, LI_mk hC loM.rf hM1 (hl) h70 h71⟩
    · intro e0 e1 e2 e3
      exfalso; first | contradiction | omega | (simp only [isG, isP] at *; omega)
  · intro g0 g1 g2 g3
    have hM1 := hM
    refine n_read (d := d + 21) hM1 hP ht hi ?_ ?_
    · intro e0
      exfalso; first | contradiction | omega | (simp only [isG, isP] at *; omega)
    · intro e0 e1 e2 e3
      exact ⟨rfl, LI_mk hC loM.rf hM1 (hl) h70 h71⟩
theorem p_shift {K : SK} {d : Nat} {c : ct} (hL : LI c) {t i u j n : Int} (ht : ir t) (hi : ir i) (hu : ir u) (hj : ir j) (hn : ir n) : CI K (d + 24) mX8_shift [(2, 0), (0, t), (0, i), (0, u), (0, j), (0, n)] c (fun c1 r1 => CI K (d + 24) mX9_shift [(2, 108), (0, t), (0, i), (0, u), (0, j), (0, n)] c1 (fun c2 r2 => r1 = r2 ∧ LI c2)) := by
  obtain ⟨H, N, I, X, hC, hM, hl, h70, h71⟩ := hL
  have hP := CSR_PU hC
  refine o_shift (d := d + 22) hC ht hi hu hj hn ?_ ?_ ?_ ?_ ?_
  · intro g0
    have hM1 := hM
    refine n_shift (d := d + 21) hM1 hP ht hi hu hj hn ?_ ?_ ?_ ?_ ?_
    · intro e0
      exact ⟨rfl, LI_mk hC loM.rf hM1 (hl) h70 h71⟩
    · intro e0 e1 e2
      exfalso; first | contradiction | omega | (simp only [isG, isP] at *; omega)
    · intro e0 e1 e2 e3 e4
      exfalso; first | contradiction | omega | (simp only [isG, isP] at *; omega)
    · intro e0 e1 e2 e3 e4
      exfalso; first | contradiction | omega | (simp only [isG, isP] at *; omega)
    · intro c2 e0 e1 e2 e3 e4 e5 lo2 hM2
      exfalso; first | contradiction | omega | (simp only [isG, isP] at *; omega)
  · intro g0 g1 g2
    have hM1 := hM
    refine n_shift (d := d + 21) hM1 hP ht hi hu hj hn ?_ ?_ ?_ ?_ ?_
    · intro e0
      exfalso; first | contradiction | omega | (simp only [isG, isP] at *; omega)
    · intro e0 e1 e2
      exact ⟨rfl, LI_mk hC loM.rf hM1 (hl) h70 h71⟩
    · intro e0 e1 e2 e3 e4
      exfalso; first | contradiction | omega | (simp only [isG, isP] at *; omega)
    · intro e0 e1 e2 e3 e4
      exfalso; first | contradiction | omega | (simp only [isG, isP] at *; omega)
    · intro c2 e0 e1 e2 e3 e4 e5 lo2 hM2
      exfalso; first | contradiction | omega | (simp only [isG, isP] at *; omega)
  · intro g0 g1 g2 g3 g4
    have hM1 := hM
    refine n_shift (d := d + 21) hM1 hP ht hi hu hj hn ?_ ?_ ?_ ?_ ?_
    · intro e0
      exfalso; first | contradiction | omega | (simp only [isG, isP] at *; omega)
    · intro e0 e1 e2
      exfalso; first | contradiction | omega | (simp only [isG, isP] at *; omega)
    · intro e0 e1 e2 e3 e4
      exact ⟨rfl, LI_mk hC loM.rf hM1 (hl) h70 h71⟩
    · intro e0 e1 e2 e3 e4
      exfalso; first | contradiction | omega | (simp only [isG, isP] at *; omega)
    · intro c2 e0 e1 e2 e3 e4 e5 lo2 hM2
      exfalso; first | contradiction | omega | (simp only [isG, isP] at *; omega)
  · intro g0 g1 g2 g3 g4
    have hM1 := hM
    refine n_shift (d := d + 21) hM1 hP ht hi hu hj hn ?_ ?_ ?_ ?_ ?_
    · intro e0
      exfalso; first | contradiction | omega | (simp only [isG, isP] at *; omega)
    · intro e0 e1 e2
      exfalso; first | contradiction | omega | (simp only [isG, isP] at *; omega)
    · intro e0 e1 e2 e3 e4
      exfalso; first | contradiction | omega | (simp only [isG, isP] at *; omega)
    · intro e0 e1 e2 e3 e4
      exact ⟨rfl, LI_mk hC loM.rf hM1 (hl) h70 h71⟩
    · intro c2 e0 e1 e2 e3 e4 e5 lo2 hM2
      exfalso; first | contradiction | omega | (simp only [isG, isP] at *; omega)
  · intro c1 g0 g1 g2 g3 g4 g5 lo1 hC1
    have hM1 := MSR_lo hM hP.1.2.2.1 (fun k a j => lo1 k (Or.inl a) j)
    refine n_shift (d := d + 21) hM1 hP ht hi hu hj hn ?_ ?_ ?_ ?_ ?_
    · intro e0
      exfalso; first | contradiction | omega | (simp only [isG, isP] at *; omega)
    · intro e0 e1 e2
      exfalso; first | contradiction | omega | (simp only [isG, isP] at *; omega)
    · intro e0 e1 e2 e3 e4
      exfalso; first | contradiction | omega | (simp only [isG, isP] at *; omega)
    · intro e0 e1 e2 e3 e4
      exfalso; first | contradiction | omega | (simp only [isG, isP] at *; omega)
    · intro c2 e0 e1 e2 e3 e4 e5 lo2 hM2
      exact ⟨rfl, LI_mk hC1 lo2 hM2 (IL_tp hl (fun y y0 y6 => by have w := (hP.2.2.2.2.2.2.2 t g0.1 g0.2).2; split; exact hl t g0.1 g0.2 _ (by omega) (by omega); exact hl u g1.1 g1.2 y y0 y6)) (ir_70 lo1 h70) (ir_70 lo1 h71)⟩
