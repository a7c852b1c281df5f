/-! CONTRACTS: acts -/
def pshX (X : ct) (b : Int) : ct := fun k j => if k = 0 ∧ j = 3 then X 0 3 + 1 else if k = 2 ∧ j = X 0 3 then b else X k j
def pshL (X : ct) : List Int → ct
  | [] => X
  | b :: l => pshL (pshX X b) l
theorem psh_3 {X : ct} {b : Int} : pshX X b 0 3 = X 0 3 + 1 := rfl
theorem psh_0 {X : ct} {b j : Int} (h : j ≠ 3) : pshX X b 0 j = X 0 j := by unfold pshX; rw [if_neg (fun q => h q.2), if_neg (fun q => absurd q.1 (by decide))]
theorem psh_k {X : ct} {b k j : Int} (h : k ≠ 0) (h2 : k ≠ 2) : pshX X b k j = X k j := by unfold pshX; rw [if_neg (fun q => h q.1), if_neg (fun q => h2 q.1)]
theorem pshL_3 {X : ct} : ∀ l : List Int, pshL X l 0 3 = X 0 3 + l.length := by
  intro l
  induction l generalizing X with
  | nil => simp [pshL]
  | cons b l ih => rw [pshL, ih, psh_3]; simp only [List.length_cons]; omega
theorem pshL_app {X : ct} : ∀ l r : List Int, pshL X (l ++ r) = pshL (pshL X l) r := by
  intro l
  induction l generalizing X with
  | nil => intro r; rfl
  | cons b l ih => intro r; rw [List.cons_append, pshL, pshL, ih]
/-- one acts: who, and what stands -/
def AC (H : hf) (c N I X : ct) (kd v i : Int) : Prop := CSR H c N I X ∧ c 4 2 = kd ∧ c 4 3 = v ∧ c 4 4 = i
theorem AC_psh {H : hf} {c c1 N I X : ct} {kd v i b : Int} (hA : AC H c N I X kd v i) (hX : X 0 3 < 100) (ho : ∀ k, k ≠ 4 → k ≠ 5 → ∀ j, c1 k j = c k j) (h4 : ∀ j, j ≠ 1 → c1 4 j = c 4 j) (h1 : c1 4 1 = c 4 1 + 1) (h5 : ∀ j, j < 20 → c1 5 j = if j = c 4 1 then b else c 5 j) : AC H c1 N I (pshX X b) kd v i := by
  obtain ⟨hC, a2, a3, a4⟩ := hA
  obtain ⟨m1, m2, m3, m4, m5, m6, m7⟩ := hC.2.2.2.2.2
  refine ⟨CSR_misc hC (fun k a j => ho k (by omega) (by omega) j) (psh_0 (by decide)) ⟨?_, ?_, ?_, ?_, fun j a d => ?_, fun j a d e => ?_, fun t t1 t2 => ?_⟩, by rw [h4 2 (by decide)]; exact a2, by rw [h4 3 (by decide)]; exact a3, by rw [h4 4 (by decide)]; exact a4⟩
  · rw [ho 0 (by decide) (by decide), psh_0 (by decide)]; exact m1
  · rw [ho 0 (by decide) (by decide), psh_0 (by decide)]; exact m2
  · rw [ho 0 (by decide) (by decide), psh_0 (by decide)]; exact m3
  · rw [h1, psh_3]; omega
  · rw [psh_0 (by decide)] at d
    rw [ho 1 (by decide) (by decide), psh_k (by decide) (by decide)]; exact m5 j a d
  · rw [psh_3] at e
    rw [h5 j d, m4.1]
    show _ = if (2 : Int) = 0 ∧ j = 3 then X 0 3 + 1 else if (2 : Int) = 2 ∧ j = X 0 3 then b else X 2 j
    rw [if_neg (show ¬ ((2 : Int) = 0 ∧ j = 3) by omega)]
    by_cases q : j = X 0 3
    · rw [if_pos q, if_pos ⟨rfl, q⟩]
    · rw [if_neg q, if_neg (fun z => q z.2)]; exact m6 j a d (by omega)
  · rw [ho (96 + 2 * t) (by omega) (by omega) 1, ho (96 + 2 * t) (by omega) (by omega) 2, psh_k (by decide) (by decide), psh_k (by decide) (by decide)]
    obtain ⟨k1, k2, k3⟩ := m7 t t1 t2
    exact ⟨k1, k2, fun j j1 j2 => by rw [ho _ (by omega) (by omega), psh_k (by omega) (by omega)]; exact k3 j j1 j2⟩
theorem a_pre {H : hf} {N I X : ct} {kd v i : Int} {K : SK} {d : Nat} {c : ct} {Q : ct → Int → Prop} (hA : AC H c N I X kd v i) (hX : X 0 3 < 90) (b x e : Int) (h : ∀ c0, (∀ c1, c1 = up2 c0 4 1 (c0 4 1 + 1) → AC H c1 N I (pshX X b) kd v i ∧ loK c c1 ∧ c1 4 4 = i ∧ c1 4 3 = v) → WI K (d + 1) mX0_runBody 19 [(2, 4), (0, b), (0, x), (0, e)] [] c0 Q) : CI K (d + 1) mX0_runBody [(2, 4), (0, b), (0, x), (0, e)] c Q := by
  obtain ⟨-, -, -, m4, -, -, -⟩ := hA.1.2.2.2.2.2
  refine e_X0_runBody b x e (s_X0_runBody_0 b x e ⟨⟨by omega, by omega⟩, fun z => h c (fun c1 e1 => ?_), fun z => ⟨⟨by omega, by omega⟩, fun c3 e3 => h c3 (fun c1 e1 => ?_)⟩⟩)
  · have n1 : ∀ k, k ≠ 4 → ∀ j, c1 k j = c k j := fun k a j => by subst e1; exact up2_ne1 a
    have n4 : ∀ j, j ≠ 1 → c1 4 j = c 4 j := fun j a => by subst e1; exact up2_ne2 a
    have s4 : c1 4 1 = c 4 1 + 1 := by subst e1; exact up2_self
    refine ⟨AC_psh hA (by omega) (fun k a _ j => n1 k a j) n4 s4 (fun j a => ?_), fun k a j => n1 k (by omega) j, by rw [n4 4 (by decide)]; exact hA.2.2.2, by rw [n4 3 (by decide)]; exact hA.2.2.1⟩
    rw [n1 5 (by decide), if_neg (by omega)]
  · have n3 : ∀ k, k ≠ 5 → ∀ j, c3 k j = c k j := fun k a j => by subst e3; exact up2_ne1 a
    have f5 : ∀ j, c3 5 j = if j = c 4 1 then b else c 5 j := fun j => by subst e3; simp only [up2, true_and]
    have n1 : ∀ k, k ≠ 4 → ∀ j, c1 k j = c3 k j := fun k a j => by subst e1; exact up2_ne1 a
    have n4 : ∀ j, j ≠ 1 → c1 4 j = c 4 j := fun j a => by subst e1; rw [up2_ne2 a]; exact n3 4 (by decide) j
    have s4 : c1 4 1 = c 4 1 + 1 := by subst e1; rw [up2_self, n3 4 (by decide)]
    refine ⟨AC_psh hA (by omega) (fun k a a2 j => by rw [n1 k a, n3 k a2]) n4 s4 (fun j a => ?_), fun k a j => by rw [n1 k (by omega), n3 k (by omega)], by rw [n4 4 (by decide)]; exact hA.2.2.2, by rw [n4 3 (by decide)]; exact hA.2.2.1⟩
    rw [n1 5 (by decide), f5]
theorem a_b10 {H : hf} {N I X : ct} {kd v i : Int} {K : SK} {d : Nat} {c : ct} {Q : ct → Int → Prop} (hA : AC H c N I X kd v i) (hX : X 0 3 < 90) {x e : Int} (h : ∀ c1, AC H c1 N I (pshX X 10) kd v i → loK c c1 → Q c1 (x + i)) : CI K (d + 1) mX0_runBody [(2, 4), (0, 10), (0, x), (0, e)] c Q := by
  refine a_pre hA hX 10 x e (fun c0 h0 => s_X0_runBody_19 10 x e (fun c1 e1 => ?_))
  have q := h0 c1 e1
  exact ⟨⟨by decide, by decide⟩, fun _ => by rw [q.2.2.1]; exact h c1 q.1 q.2.1, fun z => absurd z (by decide), fun z => absurd z (by decide), fun z => absurd z (by decide), fun z => absurd z (by decide), fun z => absurd z (by decide), fun z => absurd z (by decide), fun z => absurd z (by decide), fun z => absurd z (by decide), fun z => absurd z (by decide), fun z => absurd z (by decide), fun z => absurd rfl z.1⟩
theorem a_b11 {H : hf} {N I X : ct} {kd v i : Int} {K : SK} {d : Nat} {c : ct} {Q : ct → Int → Prop} (hA : AC H c N I X kd v i) (hX : X 0 3 < 90) {x e : Int} (h : ∀ c1, AC H c1 N I (pshX X 11) kd v i → loK c c1 → CI K d mX0_own [(2, 4), (0, 0), (0, x), (0, e)] c1 (fun c4 r => Q c4 (r - c4 4 3))) : CI K (d + 1) mX0_runBody [(2, 4), (0, 11), (0, x), (0, e)] c Q := by
  refine a_pre hA hX 11 x e (fun c0 h0 => s_X0_runBody_19 11 x e (fun c1 e1 => ?_))
  have q := h0 c1 e1
  exact ⟨⟨by decide, by decide⟩, fun z => absurd z (by decide), fun _ => by first | exact h c1 q.1 q.2.1 | (rw [q.2.2.1]; exact h c1 q.1 q.2.1), fun z => absurd z (by decide), fun z => absurd z (by decide), fun z => absurd z (by decide), fun z => absurd z (by decide), fun z => absurd z (by decide), fun z => absurd z (by decide), fun z => absurd z (by decide), fun z => absurd z (by decide), fun z => absurd z (by decide), fun z => absurd rfl z.2.1⟩
theorem a_b12 {H : hf} {N I X : ct} {kd v i : Int} {K : SK} {d : Nat} {c : ct} {Q : ct → Int → Prop} (hA : AC H c N I X kd v i) (hX : X 0 3 < 90) {x e : Int} (h : ∀ c1, AC H c1 N I (pshX X 12) kd v i → loK c c1 → CI K d mX0_own [(2, 4), (0, 1), (0, x), (0, e)] c1 (fun c4 r => Q c4 (r * 2))) : CI K (d + 1) mX0_runBody [(2, 4), (0, 12), (0, x), (0, e)] c Q := by
  refine a_pre hA hX 12 x e (fun c0 h0 => s_X0_runBody_19 12 x e (fun c1 e1 => ?_))
  have q := h0 c1 e1
  exact ⟨⟨by decide, by decide⟩, fun z => absurd z (by decide), fun z => absurd z (by decide), fun _ => by first | exact h c1 q.1 q.2.1 | (rw [q.2.2.1]; exact h c1 q.1 q.2.1), fun z => absurd z (by decide), fun z => absurd z (by decide), fun z => absurd z (by decide), fun z => absurd z (by decide), fun z => absurd z (by decide), fun z => absurd z (by decide), fun z => absurd z (by decide), fun z => absurd z (by decide), fun z => absurd rfl z.2.2.1⟩
theorem a_b20 {H : hf} {N I X : ct} {kd v i : Int} {K : SK} {d : Nat} {c : ct} {Q : ct → Int → Prop} (hA : AC H c N I X kd v i) (hX : X 0 3 < 90) {x e : Int} (h : ∀ c1, AC H c1 N I (pshX X 20) kd v i → loK c c1 → CI K d mX0_from [(2, 4), (0, 0), (0, 1), (0, x), (0, e)] c1 (fun c4 r => Q c4 (bXor r 6))) : CI K (d + 1) mX0_runBody [(2, 4), (0, 20), (0, x), (0, e)] c Q := by
  refine a_pre hA hX 20 x e (fun c0 h0 => s_X0_runBody_19 20 x e (fun c1 e1 => ?_))
  have q := h0 c1 e1
  exact ⟨⟨by decide, by decide⟩, fun z => absurd z (by decide), fun z => absurd z (by decide), fun z => absurd z (by decide), fun _ => by first | exact h c1 q.1 q.2.1 | (rw [q.2.2.1]; exact h c1 q.1 q.2.1), fun z => absurd z (by decide), fun z => absurd z (by decide), fun z => absurd z (by decide), fun z => absurd z (by decide), fun z => absurd z (by decide), fun z => absurd z (by decide), fun z => absurd z (by decide), fun z => absurd rfl z.2.2.2.1⟩
theorem a_b30 {H : hf} {N I X : ct} {kd v i : Int} {K : SK} {d : Nat} {c : ct} {Q : ct → Int → Prop} (hA : AC H c N I X kd v i) (hX : X 0 3 < 90) {x e : Int} (h : ∀ c1, AC H c1 N I (pshX X 30) kd v i → loK c c1 → CI K d mX0_from [(2, 4), (0, 0), (0, 0), (0, x * 3), (0, e)] c1 (fun c4 r => Q c4 r)) : CI K (d + 1) mX0_runBody [(2, 4), (0, 30), (0, x), (0, e)] c Q := by
  refine a_pre hA hX 30 x e (fun c0 h0 => s_X0_runBody_19 30 x e (fun c1 e1 => ?_))
  have q := h0 c1 e1
  exact ⟨⟨by decide, by decide⟩, fun z => absurd z (by decide), fun z => absurd z (by decide), fun z => absurd z (by decide), fun z => absurd z (by decide), fun _ => by first | exact h c1 q.1 q.2.1 | (rw [q.2.2.1]; exact h c1 q.1 q.2.1), fun z => absurd z (by decide), fun z => absurd z (by decide), fun z => absurd z (by decide), fun z => absurd z (by decide), fun z => absurd z (by decide), fun z => absurd z (by decide), fun z => absurd rfl z.2.2.2.2.1⟩
theorem a_b40 {H : hf} {N I X : ct} {kd v i : Int} {K : SK} {d : Nat} {c : ct} {Q : ct → Int → Prop} (hA : AC H c N I X kd v i) (hX : X 0 3 < 90) {x e : Int} (h : ∀ c1, AC H c1 N I (pshX X 40) kd v i → loK c c1 → CI K d mX0_from [(2, 4), (0, 0), (0, 2), (0, x), (0, e)] c1 (fun c4 r => CI K d mX0_own [(2, 4), (0, 1), (0, 1), (0, e)] c4 (fun c5 r2 => Q c5 (r + r2)))) : CI K (d + 1) mX0_runBody [(2, 4), (0, 40), (0, x), (0, e)] c Q := by
  refine a_pre hA hX 40 x e (fun c0 h0 => s_X0_runBody_19 40 x e (fun c1 e1 => ?_))
  have q := h0 c1 e1
  exact ⟨⟨by decide, by decide⟩, fun z => absurd z (by decide), fun z => absurd z (by decide), fun z => absurd z (by decide), fun z => absurd z (by decide), fun z => absurd z (by decide), fun _ => by first | exact h c1 q.1 q.2.1 | (rw [q.2.2.1]; exact h c1 q.1 q.2.1), fun z => absurd z (by decide), fun z => absurd z (by decide), fun z => absurd z (by decide), fun z => absurd z (by decide), fun z => absurd z (by decide), fun z => absurd rfl z.2.2.2.2.2.1⟩
theorem a_b50 {H : hf} {N I X : ct} {kd v i : Int} {K : SK} {d : Nat} {c : ct} {Q : ct → Int → Prop} (hA : AC H c N I X kd v i) (hX : X 0 3 < 90) {x e : Int} (h : ∀ c1, AC H c1 N I (pshX X 50) kd v i → loK c c1 → CI K d mX0_from [(2, 4), (0, 1), (0, 0), (0, x), (0, e)] c1 (fun c4 r => Q c4 (-r))) : CI K (d + 1) mX0_runBody [(2, 4), (0, 50), (0, x), (0, e)] c Q := by
  refine a_pre hA hX 50 x e (fun c0 h0 => s_X0_runBody_19 50 x e (fun c1 e1 => ?_))
  have q := h0 c1 e1
  exact ⟨⟨by decide, by decide⟩, fun z => absurd z (by decide), fun z => absurd z (by decide), fun z => absurd z (by decide), fun z => absurd z (by decide), fun z => absurd z (by decide), fun z => absurd z (by decide), fun _ => by first | exact h c1 q.1 q.2.1 | (rw [q.2.2.1]; exact h c1 q.1 q.2.1), fun z => absurd z (by decide), fun z => absurd z (by decide), fun z => absurd z (by decide), fun z => absurd z (by decide), fun z => absurd rfl z.2.2.2.2.2.2.1⟩
theorem a_b51 {H : hf} {N I X : ct} {kd v i : Int} {K : SK} {d : Nat} {c : ct} {Q : ct → Int → Prop} (hA : AC H c N I X kd v i) (hX : X 0 3 < 90) {x e : Int} (h : ∀ c1, AC H c1 N I (pshX X 51) kd v i → loK c c1 → CI K d mX0_from [(2, 4), (0, 1), (0, 1), (0, x + 1), (0, e)] c1 (fun c4 r => Q c4 r)) : CI K (d + 1) mX0_runBody [(2, 4), (0, 51), (0, x), (0, e)] c Q := by
  refine a_pre hA hX 51 x e (fun c0 h0 => s_X0_runBody_19 51 x e (fun c1 e1 => ?_))
  have q := h0 c1 e1
  exact ⟨⟨by decide, by decide⟩, fun z => absurd z (by decide), fun z => absurd z (by decide), fun z => absurd z (by decide), fun z => absurd z (by decide), fun z => absurd z (by decide), fun z => absurd z (by decide), fun z => absurd z (by decide), fun _ => by first | exact h c1 q.1 q.2.1 | (rw [q.2.2.1]; exact h c1 q.1 q.2.1), fun z => absurd z (by decide), fun z => absurd z (by decide), fun z => absurd z (by decide), fun z => absurd rfl z.2.2.2.2.2.2.2.1⟩
theorem a_b60 {H : hf} {N I X : ct} {kd v i : Int} {K : SK} {d : Nat} {c : ct} {Q : ct → Int → Prop} (hA : AC H c N I X kd v i) (hX : X 0 3 < 90) {x e : Int} (h : ∀ c1, AC H c1 N I (pshX X 60) kd v i → loK c c1 → CI K d mX0_from [(2, 4), (0, 2), (0, 2), (0, x - i), (0, e)] c1 (fun c4 r => Q c4 r)) : CI K (d + 1) mX0_runBody [(2, 4), (0, 60), (0, x), (0, e)] c Q := by
  refine a_pre hA hX 60 x e (fun c0 h0 => s_X0_runBody_19 60 x e (fun c1 e1 => ?_))
  have q := h0 c1 e1
  exact ⟨⟨by decide, by decide⟩, fun z => absurd z (by decide), fun z => absurd z (by decide), fun z => absurd z (by decide), fun z => absurd z (by decide), fun z => absurd z (by decide), fun z => absurd z (by decide), fun z => absurd z (by decide), fun z => absurd z (by decide), fun _ => by first | exact h c1 q.1 q.2.1 | (rw [q.2.2.1]; exact h c1 q.1 q.2.1), fun z => absurd z (by decide), fun z => absurd z (by decide), fun z => absurd rfl z.2.2.2.2.2.2.2.2.1⟩
theorem a_b70 {H : hf} {N I X : ct} {kd v i : Int} {K : SK} {d : Nat} {c : ct} {Q : ct → Int → Prop} (hA : AC H c N I X kd v i) (hX : X 0 3 < 90) {x e : Int} (h : ∀ c1, AC H c1 N I (pshX X 70) kd v i → loK c c1 → CI K d mX0_from [(2, 4), (0, 3), (0, 1), (0, x), (0, e)] c1 (fun c4 r => CI K d mX0_from [(2, 4), (0, 3), (0, 0), (0, 2), (0, e)] c4 (fun c5 r2 => Q c5 (r + r2)))) : CI K (d + 1) mX0_runBody [(2, 4), (0, 70), (0, x), (0, e)] c Q := by
  refine a_pre hA hX 70 x e (fun c0 h0 => s_X0_runBody_19 70 x e (fun c1 e1 => ?_))
  have q := h0 c1 e1
  exact ⟨⟨by decide, by decide⟩, fun z => absurd z (by decide), fun z => absurd z (by decide), fun z => absurd z (by decide), fun z => absurd z (by decide), fun z => absurd z (by decide), fun z => absurd z (by decide), fun z => absurd z (by decide), fun z => absurd z (by decide), fun z => absurd z (by decide), fun _ => by first | exact h c1 q.1 q.2.1 | (rw [q.2.2.1]; exact h c1 q.1 q.2.1), fun z => absurd z (by decide), fun z => absurd rfl z.2.2.2.2.2.2.2.2.2.1⟩
theorem a_b71 {H : hf} {N I X : ct} {kd v i : Int} {K : SK} {d : Nat} {c : ct} {Q : ct → Int → Prop} (hA : AC H c N I X kd v i) (hX : X 0 3 < 90) {x e : Int} (h : ∀ c1, AC H c1 N I (pshX X 71) kd v i → loK c c1 → CI K d mX0_from [(2, 4), (0, 3), (0, 0), (0, x), (0, e)] c1 (fun c4 r => Q c4 (bXor r (c4 4 3)))) : CI K (d + 1) mX0_runBody [(2, 4), (0, 71), (0, x), (0, e)] c Q := by
  refine a_pre hA hX 71 x e (fun c0 h0 => s_X0_runBody_19 71 x e (fun c1 e1 => ?_))
  have q := h0 c1 e1
  exact ⟨⟨by decide, by decide⟩, fun z => absurd z (by decide), fun z => absurd z (by decide), fun z => absurd z (by decide), fun z => absurd z (by decide), fun z => absurd z (by decide), fun z => absurd z (by decide), fun z => absurd z (by decide), fun z => absurd z (by decide), fun z => absurd z (by decide), fun z => absurd z (by decide), fun _ => by first | exact h c1 q.1 q.2.1 | (rw [q.2.2.1]; exact h c1 q.1 q.2.1), fun z => absurd rfl z.2.2.2.2.2.2.2.2.2.2⟩
def bdF (k a : Int) : Int := if a = 0 then (if k = 2 ∨ k = 5 then 30 else if k = 4 then 50 else if k = 6 then 71 else 10) else if a = 1 then (if k = 1 then 20 else if k = 4 then 51 else if k = 6 then 70 else 11) else (if k = 3 ∨ k = 6 then 40 else if k = 5 then 60 else 12)
theorem fr_hit {K : SK} {d : Nat} {c : ct} {Q : ct → Int → Prop} {k a x e n b : Int} (hk : 0 ≤ k ∧ k < 7) (ha : 0 ≤ a ∧ a < 3) (he : 0 ≤ e ∧ e ≤ 40) (hn : 0 ≤ n ∧ n < 7) (hb : roC K 4 (k * 3 + a).toNat = b) (hz : k ≤ 0 ∨ (b ≠ 0 ∧ ir b)) (h : CI K d mX0_runBody [(2, 4), (0, b), (0, x), (0, e + 1)] c Q) : WI K (d + 1) mX0_from 6 [(2, 4), (9, 0), (0, a), (0, x), (0, e), (0, k), (0, n)] [] c Q := by
  have seg : WI K (d + 1) mX0_from 45 [(2, 4), (9, 0), (0, a), (0, x), (0, e), (0, k), (9, 0)] [] c Q := by
    refine s_X0_from_45 a x e k ⟨⟨by omega, by omega⟩, fun z => absurd z (by omega), fun _ => ⟨⟨by omega, by omega⟩, fun _ => ⟨⟨by omega, by omega⟩, ?_⟩, fun z => absurd he.2 z⟩⟩
    rw [hb]; exact h
  refine s_X0_from_6 a x e k n ⟨⟨by omega, by omega⟩, fun z => absurd z (by omega), fun _ => ⟨⟨by omega, by omega⟩, fun _ => seg, fun z => ⟨⟨by omega, by omega⟩, fun z2 => ?_, fun z2 => ⟨?_, seg⟩⟩⟩⟩
  · rw [hb] at z2
    rcases hz with q | q
    · omega
    · exact absurd z2 q.1
  · rw [hb]
    rcases hz with q | q
    · omega
    · exact q.2
theorem fr_up {K : SK} {d : Nat} {c : ct} {Q : ct → Int → Prop} {k a x e n k' : Int} (hk : 0 < k ∧ k < 7) (ha : 0 ≤ a ∧ a < 3) (hn : 0 ≤ n ∧ n < 7) (hb : roC K 4 (k * 3 + a).toNat = 0) (hu : roC K 5 k.toNat = k') (h : WI K (d + 1) mX0_from 6 [(2, 4), (9, 0), (0, a), (0, x), (0, e), (0, k'), (0, n + 1)] [] c Q) : WI K (d + 1) mX0_from 6 [(2, 4), (9, 0), (0, a), (0, x), (0, e), (0, k), (0, n)] [] c Q := by
  refine s_X0_from_6 a x e k n ⟨⟨by omega, by omega⟩, fun z => absurd z (by omega), fun _ => ⟨⟨by omega, by omega⟩, fun z => absurd z (by omega), fun z => ⟨⟨by omega, by omega⟩, fun z2 => ⟨by omega, ?_⟩, fun z2 => absurd hb z2⟩⟩⟩
  rw [hu]; exact h
theorem a_from {K : SK} {d : Nat} {c : ct} {Q : ct → Int → Prop} {k a x e : Int} (hk : 0 ≤ k ∧ k < 7) (ha : 0 ≤ a ∧ a < 3) (he : 0 ≤ e ∧ e ≤ 40) (h : CI K d mX0_runBody [(2, 4), (0, bdF k a), (0, x), (0, e + 1)] c Q) : CI K (d + 1) mX0_from [(2, 4), (0, k), (0, a), (0, x), (0, e)] c Q := by
  refine e_X0_from k a x e (s_X0_from_0 k a x e ?_)
  have h3 : a = 0 ∨ a = 1 ∨ a = 2 := by omega
  rcases seven hk with rfl | rfl | rfl | rfl | rfl | rfl | rfl <;> rcases h3 with rfl | rfl | rfl
  · exact fr_hit (k := 0) (b := 10) (by decide) (by decide) he (by decide) rfl (Or.inl (by decide)) h
  · exact fr_hit (k := 0) (b := 11) (by decide) (by decide) he (by decide) rfl (Or.inl (by decide)) h
  · exact fr_hit (k := 0) (b := 12) (by decide) (by decide) he (by decide) rfl (Or.inl (by decide)) h
  · exact fr_up (k := 1) (k' := 0) (by decide) (by decide) (by decide) rfl rfl (fr_hit (k := 0) (b := 10) (by decide) (by decide) he (by decide) rfl (Or.inl (by decide)) h)
  · exact fr_hit (k := 1) (b := 20) (by decide) (by decide) he (by decide) rfl (Or.inr ⟨by decide, by decide, by decide⟩) h
  · exact fr_up (k := 1) (k' := 0) (by decide) (by decide) (by decide) rfl rfl (fr_hit (k := 0) (b := 12) (by decide) (by decide) he (by decide) rfl (Or.inl (by decide)) h)
  · exact fr_hit (k := 2) (b := 30) (by decide) (by decide) he (by decide) rfl (Or.inr ⟨by decide, by decide, by decide⟩) h
  · exact fr_up (k := 2) (k' := 0) (by decide) (by decide) (by decide) rfl rfl (fr_hit (k := 0) (b := 11) (by decide) (by decide) he (by decide) rfl (Or.inl (by decide)) h)
  · exact fr_up (k := 2) (k' := 0) (by decide) (by decide) (by decide) rfl rfl (fr_hit (k := 0) (b := 12) (by decide) (by decide) he (by decide) rfl (Or.inl (by decide)) h)
  · exact fr_up (k := 3) (k' := 0) (by decide) (by decide) (by decide) rfl rfl (fr_hit (k := 0) (b := 10) (by decide) (by decide) he (by decide) rfl (Or.inl (by decide)) h)
  · exact fr_up (k := 3) (k' := 0) (by decide) (by decide) (by decide) rfl rfl (fr_hit (k := 0) (b := 11) (by decide) (by decide) he (by decide) rfl (Or.inl (by decide)) h)
  · exact fr_hit (k := 3) (b := 40) (by decide) (by decide) he (by decide) rfl (Or.inr ⟨by decide, by decide, by decide⟩) h
  · exact fr_hit (k := 4) (b := 50) (by decide) (by decide) he (by decide) rfl (Or.inr ⟨by decide, by decide, by decide⟩) h
  · exact fr_hit (k := 4) (b := 51) (by decide) (by decide) he (by decide) rfl (Or.inr ⟨by decide, by decide, by decide⟩) h
  · exact fr_up (k := 4) (k' := 1) (by decide) (by decide) (by decide) rfl rfl (fr_up (k := 1) (k' := 0) (by decide) (by decide) (by decide) rfl rfl (fr_hit (k := 0) (b := 12) (by decide) (by decide) he (by decide) rfl (Or.inl (by decide)) h))
  · exact fr_up (k := 5) (k' := 2) (by decide) (by decide) (by decide) rfl rfl (fr_hit (k := 2) (b := 30) (by decide) (by decide) he (by decide) rfl (Or.inr ⟨by decide, by decide, by decide⟩) h)
  · exact fr_up (k := 5) (k' := 2) (by decide) (by decide) (by decide) rfl rfl (fr_up (k := 2) (k' := 0) (by decide) (by decide) (by decide) rfl rfl (fr_hit (k := 0) (b := 11) (by decide) (by decide) he (by decide) rfl (Or.inl (by decide)) h))
  · exact fr_hit (k := 5) (b := 60) (by decide) (by decide) he (by decide) rfl (Or.inr ⟨by decide, by decide, by decide⟩) h
  · exact fr_hit (k := 6) (b := 71) (by decide) (by decide) he (by decide) rfl (Or.inr ⟨by decide, by decide, by decide⟩) h
  · exact fr_hit (k := 6) (b := 70) (by decide) (by decide) he (by decide) rfl (Or.inr ⟨by decide, by decide, by decide⟩) h
  · exact fr_up (k := 6) (k' := 3) (by decide) (by decide) (by decide) rfl rfl (fr_hit (k := 3) (b := 40) (by decide) (by decide) he (by decide) rfl (Or.inr ⟨by decide, by decide, by decide⟩) h)
