/-! CONTRACTS: acts, told abstractly -/
def spL (k : Int) : List Int := if k = 2 ∨ k = 5 then [30, 10] else if k = 4 then [50, 10] else if k = 6 then [71, 10] else [10]
def spR (k v i x : Int) : Int := if k = 2 ∨ k = 5 then x * 3 + i else if k = 4 then -(x + i) else if k = 6 then bXor (x + i) v else x + i
def chL (k : Int) : List Int := if k = 1 then 20 :: 11 :: spL k else if k = 4 then 51 :: 20 :: 11 :: spL k else if k = 6 then 70 :: 11 :: (spL k ++ [10]) else 11 :: spL k
def chR (k v i x : Int) : Int := if k = 1 then bXor (spR k v i x - v) 6 else if k = 4 then bXor (spR k v i (x + 1) - v) 6 else if k = 6 then spR k v i x - v + (2 + i) else spR k v i x - v
def tlL (k : Int) : List Int := if k = 3 ∨ k = 6 then 40 :: 12 :: (chL k ++ chL k) else if k = 5 then 60 :: 12 :: chL k else 12 :: chL k
def tlR (k v i x : Int) : Int := if k = 3 ∨ k = 6 then chR k v i x * 2 + chR k v i 1 else if k = 5 then chR k v i (x - i) * 2 else chR k v i x * 2
theorem len_sp (k : Int) : (spL k).length ≤ 2 := by
  unfold spL
  repeat' split
  all_goals decide
theorem len_ch (k : Int) : (chL k).length ≤ 5 := by
  have := len_sp k
  unfold chL
  repeat' split
  all_goals simp only [List.length_cons, List.length_append, List.length_nil]
  all_goals omega
theorem a_from0 {H : hf} {N I X : ct} {kd v i : Int} {K : SK} {d : Nat} {c : ct} {Q : ct → Int → Prop} (hA : AC H c N I X kd v i) (hX : X 0 3 < 90) {k x e : Int} (hk : k = 0 ∨ k = 1 ∨ k = 3) (he : 0 ≤ e ∧ e ≤ 40) (h : ∀ c', AC H c' N I (pshX X 10) kd v i → loK c c' → Q c' (x + i)) : CI K (d + 2) mX0_from [(2, 4), (0, k), (0, 0), (0, x), (0, e)] c Q := by
  rcases hk with rfl | rfl | rfl <;> exact a_from (by decide) (by decide) he (a_b10 hA hX h)
theorem a_sips {H : hf} {N I X : ct} {kd v i : Int} {K : SK} {d : Nat} {c : ct} {Q : ct → Int → Prop} (hA : AC H c N I X kd v i) (hX : X 0 3 < 80) (hk : 0 ≤ kd ∧ kd < 7) {x e : Int} (he : 0 ≤ e ∧ e ≤ 30) (h : ∀ c', AC H c' N I (pshL X (spL kd)) kd v i → loK c c' → Q c' (spR kd v i x)) : CI K (d + 5) mX0_own [(2, 4), (0, 0), (0, x), (0, e)] c Q := by
  have he' : 0 ≤ e + 1 ∧ e + 1 ≤ 40 := by omega
  have he0 : 0 ≤ e ∧ e ≤ 40 := by omega
  refine e_X0_own 0 x e (s_X0_own_0 0 x e ?_)
  rw [hA.2.1]
  rcases seven hk with rfl | rfl | rfl | rfl | rfl | rfl | rfl
  · exact a_from0 hA (by omega) (Or.inl rfl) he0 h
  · exact a_from0 hA (by omega) (Or.inr (Or.inl rfl)) he0 h
  · exact a_from (by decide) (by decide) he0 (a_b30 hA (by omega) (fun c1 A1 l1 => a_from0 A1 (by rw [psh_3]; omega) (Or.inl rfl) he' (fun c' A' l' => h c' A' (l1.trans l'))))
  · exact a_from0 hA (by omega) (Or.inr (Or.inr rfl)) he0 h
  · exact a_from (by decide) (by decide) he0 (a_b50 hA (by omega) (fun c1 A1 l1 => a_from0 A1 (by rw [psh_3]; omega) (Or.inr (Or.inl rfl)) he' (fun c' A' l' => h c' A' (l1.trans l'))))
  · exact a_from (by decide) (by decide) he0 (a_b30 hA (by omega) (fun c1 A1 l1 => a_from0 A1 (by rw [psh_3]; omega) (Or.inl rfl) he' (fun c' A' l' => h c' A' (l1.trans l'))))
  · exact a_from (by decide) (by decide) he0 (a_b71 hA (by omega) (fun c1 A1 l1 => a_from0 A1 (by rw [psh_3]; omega) (Or.inr (Or.inr rfl)) he' (fun c' A' l' => by rw [A'.2.2.1]; exact h c' A' (l1.trans l'))))
theorem a_from1 {H : hf} {N I X : ct} {kd v i : Int} {K : SK} {d : Nat} {c : ct} {Q : ct → Int → Prop} (hA : AC H c N I X kd v i) (hX : X 0 3 < 70) (hkd : 0 ≤ kd ∧ kd < 7) {k x e : Int} (hk : k = 0 ∨ k = 2 ∨ k = 3 ∨ k = 5) (he : 0 ≤ e ∧ e ≤ 25) (h : ∀ c', AC H c' N I (pshL X (11 :: spL kd)) kd v i → loK c c' → Q c' (spR kd v i x - v)) : CI K (d + 7) mX0_from [(2, 4), (0, k), (0, 1), (0, x), (0, e)] c Q := by
  have he0 : 0 ≤ e ∧ e ≤ 40 := by omega
  have key : CI K (d + 6) mX0_runBody [(2, 4), (0, 11), (0, x), (0, e + 1)] c Q := a_b11 hA (by omega) (fun c1 A1 l1 => a_sips A1 (by rw [psh_3]; omega) hkd (by omega) (fun c' A' l' => by rw [A'.2.2.1]; exact h c' A' (l1.trans l')))
  rcases hk with rfl | rfl | rfl | rfl <;> exact a_from (by decide) (by decide) he0 key
theorem a_chats {H : hf} {N I X : ct} {kd v i : Int} {K : SK} {d : Nat} {c : ct} {Q : ct → Int → Prop} (hA : AC H c N I X kd v i) (hX : X 0 3 < 60) (hk : 0 ≤ kd ∧ kd < 7) {x e : Int} (he : 0 ≤ e ∧ e ≤ 20) (h : ∀ c', AC H c' N I (pshL X (chL kd)) kd v i → loK c c' → Q c' (chR kd v i x)) : CI K (d + 12) mX0_own [(2, 4), (0, 1), (0, x), (0, e)] c Q := by
  have he0 : 0 ≤ e ∧ e ≤ 40 := by omega
  have he1 : 0 ≤ e + 1 ∧ e + 1 ≤ 40 := by omega
  have he1' : 0 ≤ e + 1 ∧ e + 1 ≤ 25 := by omega
  have he2' : 0 ≤ e + 1 + 1 ∧ e + 1 + 1 ≤ 25 := by omega
  refine e_X0_own 1 x e (s_X0_own_0 1 x e ?_)
  rw [hA.2.1]
  rcases seven hk with rfl | rfl | rfl | rfl | rfl | rfl | rfl
  · exact a_from1 hA (by omega) hk (Or.inl rfl) (by omega) h
  · exact a_from (by decide) (by decide) he0 (a_b20 hA (by omega) (fun c1 A1 l1 => a_from1 A1 (by rw [psh_3]; omega) hk (Or.inl rfl) he1' (fun c' A' l' => h c' A' (l1.trans l'))))
  · exact a_from1 hA (by omega) hk (Or.inr (Or.inl rfl)) (by omega) h
  · exact a_from1 hA (by omega) hk (Or.inr (Or.inr (Or.inl rfl))) (by omega) h
  · exact a_from (by decide) (by decide) he0 (a_b51 hA (by omega) (fun c1 A1 l1 => a_from (by decide) (by decide) he1 (a_b20 A1 (by rw [psh_3]; omega) (fun c2 A2 l2 => a_from1 A2 (by rw [psh_3, psh_3]; omega) hk (Or.inl rfl) he2' (fun c' A' l' => h c' A' ((l1.trans l2).trans l'))))))
  · exact a_from1 hA (by omega) hk (Or.inr (Or.inr (Or.inr rfl))) (by omega) h
  · exact a_from (by decide) (by decide) he0 (a_b70 hA (by omega) (fun c1 A1 l1 => a_from1 A1 (by rw [psh_3]; omega) hk (Or.inr (Or.inr (Or.inl rfl))) he1' (fun c2 A2 l2 => a_from0 A2 (by rw [pshL_3, psh_3]; have := len_sp 6; simp only [List.length_cons]; omega) (Or.inr (Or.inr rfl)) he1 (fun c' A' l' => h c' A' ((l1.trans l2).trans l')))))
theorem a_from2 {H : hf} {N I X : ct} {kd v i : Int} {K : SK} {d : Nat} {c : ct} {Q : ct → Int → Prop} (hA : AC H c N I X kd v i) (hX : X 0 3 < 50) (hkd : 0 ≤ kd ∧ kd < 7) {k x e : Int} (hk : k = 0 ∨ k = 1 ∨ k = 2 ∨ k = 4) (he : 0 ≤ e ∧ e ≤ 15) (h : ∀ c', AC H c' N I (pshL X (12 :: chL kd)) kd v i → loK c c' → Q c' (chR kd v i x * 2)) : CI K (d + 14) mX0_from [(2, 4), (0, k), (0, 2), (0, x), (0, e)] c Q := by
  have he0 : 0 ≤ e ∧ e ≤ 40 := by omega
  have key : CI K (d + 13) mX0_runBody [(2, 4), (0, 12), (0, x), (0, e + 1)] c Q := a_b12 hA (by omega) (fun c1 A1 l1 => a_chats A1 (by rw [psh_3]; omega) hkd (by omega) (fun c' A' l' => h c' A' (l1.trans l')))
  rcases hk with rfl | rfl | rfl | rfl <;> exact a_from (by decide) (by decide) he0 key
theorem a_tells {H : hf} {N I X : ct} {kd v i : Int} {K : SK} {d : Nat} {c : ct} {Q : ct → Int → Prop} (hA : AC H c N I X kd v i) (hX : X 0 3 < 40) (hk : 0 ≤ kd ∧ kd < 7) {x e : Int} (he : 0 ≤ e ∧ e ≤ 10) (h : ∀ c', AC H c' N I (pshL X (tlL kd)) kd v i → loK c c' → Q c' (tlR kd v i x)) : CI K (d + 17) mX0_own [(2, 4), (0, 2), (0, x), (0, e)] c Q := by
  have he0 : 0 ≤ e ∧ e ≤ 40 := by omega
  have he1 : 0 ≤ e + 1 ∧ e + 1 ≤ 15 := by omega
  have lc := len_ch kd
  refine e_X0_own 2 x e (s_X0_own_0 2 x e ?_)
  rw [hA.2.1]
  have forty : ∀ (h' : ∀ c', AC H c' N I (pshL X (40 :: 12 :: (chL kd ++ chL kd))) kd v i → loK c c' → Q c' (chR kd v i x * 2 + chR kd v i 1)), CI K (d + 15) mX0_runBody [(2, 4), (0, 40), (0, x), (0, e + 1)] c Q := fun h' =>
    a_b40 hA (by omega) (fun c1 A1 l1 => a_from2 A1 (by rw [psh_3]; omega) hk (Or.inl rfl) he1 (fun c2 A2 l2 => a_chats A2 (by rw [pshL_3, psh_3]; simp only [List.length_cons]; omega) hk (by omega) (fun c' A' l' => h' c' (by
      have e : pshL X (40 :: 12 :: (chL kd ++ chL kd)) = pshL (pshL (pshX X 40) (12 :: chL kd)) (chL kd) := by rw [← pshL_app]; rfl
      rw [e]; exact A') ((l1.trans l2).trans l'))))
  rcases seven hk with rfl | rfl | rfl | rfl | rfl | rfl | rfl
  · exact a_from2 hA (by omega) hk (Or.inl rfl) (by omega) h
  · exact a_from2 hA (by omega) hk (Or.inr (Or.inl rfl)) (by omega) h
  · exact a_from2 hA (by omega) hk (Or.inr (Or.inr (Or.inl rfl))) (by omega) h
  · exact a_from (by decide) (by decide) he0 (forty h)
  · exact a_from2 hA (by omega) hk (Or.inr (Or.inr (Or.inr rfl))) (by omega) h
  · exact a_from (by decide) (by decide) he0 (a_b60 hA (by omega) (fun c1 A1 l1 => a_from2 A1 (by rw [psh_3]; omega) hk (Or.inr (Or.inr (Or.inl rfl))) he1 (fun c' A' l' => h c' A' (l1.trans l'))))
  · exact a_from (by decide) (by decide) he0 (forty h)
def acL (k a : Int) : List Int := if a = 0 then spL k else if a = 1 then chL k else tlL k
def acR (k v i a x : Int) : Int := if a = 0 then spR k v i x else if a = 1 then chR k v i x else tlR k v i x
theorem fg_C {H : hf} {c c' N I X : ct} (hC : CSR H c N I X) (ho : ∀ k, k ≠ 4 → ∀ j, c' k j = c k j) (h1 : c' 4 1 = 0) : CSR H c' N I (x0X X 3 0) := by
  obtain ⟨m1, m2, m3, m4, m5, m6, m7⟩ := hC.2.2.2.2.2
  refine CSR_misc hC (fun k a j => ho k (by omega) j) (x0_k (Or.inr (by decide))) ⟨?_, ?_, ?_, ?_, fun j a d => ?_, fun j a d e => ?_, fun t t1 t2 => ?_⟩
  · rw [ho 0 (by decide), x0_k (Or.inr (by decide))]; exact m1
  · rw [ho 0 (by decide), x0_k (Or.inr (by decide))]; exact m2
  · rw [ho 0 (by decide), x0_k (Or.inr (by decide))]; exact m3
  · rw [h1, x0_s]; exact ⟨rfl, by decide, by decide⟩
  · rw [x0_k (Or.inr (by decide))] at d
    rw [ho 1 (by decide), x0_k (Or.inl (by decide))]; exact m5 j a d
  · rw [x0_s] at e; omega
  · rw [ho (96 + 2 * t) (by omega) 1, ho (96 + 2 * t) (by omega) 2, x0_k (Or.inl (by decide)), x0_k (Or.inl (by decide))]
    obtain ⟨k1, k2, k3⟩ := m7 t t1 t2
    exact ⟨k1, k2, fun j j1 j2 => by rw [ho _ (by omega), x0_k (Or.inl (by omega))]; exact k3 j j1 j2⟩
theorem k_forget {H : hf} {N I X : ct} {K : SK} {d : Nat} {c : ct} {Q : ct → Prop} (hC : CSR H c N I X) (h : ∀ c', (∀ k, k ≠ 4 → ∀ j, c' k j = c k j) → c' 4 1 = 0 → CSR H c' N I (x0X X 3 0) → Q c') : CV K (d + 1) mX0_forget [(2, 4)] c Q := by
  refine e_X0_forget (s_X0_forget_0 (fun c1 e1 => ?_))
  have n1 : ∀ k, k ≠ 4 → ∀ j, c1 k j = c k j := fun k a j => by subst e1; exact up2_ne1 a
  have z1 : c1 4 1 = 0 := by subst e1; exact up2_self
  exact h c1 n1 z1 (fg_C hC n1 z1)
theorem o_act {H : hf} {N I X : ct} {K : SK} {d : Nat} {c : ct} {Q : ct → Int → Prop} (hC : CSR H c N I X) {p a x : Int} (hp : ir p) (ha : ir a) (h0 : ∀ c', ¬ (isG N p ∧ 0 ≤ a ∧ a < 3) → loK c c' → CSR H c' N I (x0X X 3 0) → Q c' 0) (h1 : ∀ c', isG N p → 0 ≤ a → a < 3 → loK c c' → CSR H c' N I (pshL (x0X X 3 0) (acL (N 1 p) a)) → Q c' (acR (N 1 p) (N 2 p) p a x)) : CI K (d + 19) mX8_act [(2, 0), (0, p), (0, a), (0, x)] c Q := by
  have hn := hC.n
  have fg : ¬ (isG N p ∧ 0 ≤ a ∧ a < 3) → CV K (d + 18) mX0_forget [(2, 4)] c (fun c4 => Q c4 0) := fun z => k_forget hC (fun c' ho _ hC' => h0 c' z (fun k q j => ho k (by omega) j) hC')
  refine e_X8_act p a x (s_X8_act_0 p a x (g_isGuest hC p hp (fun z => ⟨fun _ => fg (fun b => z b.1), fun z2 => absurd rfl z2⟩) (fun g1 g2 => ⟨fun z => absurd z one_ne, fun _ => ⟨ir01.2, ha, fun z => fg (by omega), fun z => ⟨ha, fun z2 => ⟨⟨g1, by omega⟩, ⟨g1, by omega⟩, ?_⟩, fun z2 => fg (by omega)⟩⟩⟩)))
  obtain ⟨e, -⟩ := hC.now.2.2.2.2.1 p g1 g2
  have rp := RT_p hC.now ⟨g1, g2⟩
  have e1 : c 25 p = N 1 p := e.1
  have e2 : c 26 p = N 2 p := e.2.1
  rw [e1, e2]
  refine e_X0_begin _ _ _ _ _ (s_X0_begin_0 _ _ _ _ _ (k_forget hC (fun c1 o1 f1 hC1 c3 e3 c4 e4 c5 e5 => ?_)))
  have n5 : ∀ k, k ≠ 4 → ∀ j, c5 k j = c1 k j := fun k q j => by subst e5; rw [up2_ne1 q]; subst e4; rw [up2_ne1 q]; subst e3; exact up2_ne1 q
  have z5 : ∀ j, j ≠ 2 → j ≠ 3 → j ≠ 4 → c5 4 j = c1 4 j := fun j q2 q3 q4 => by subst e5; rw [up2_ne2 q4]; subst e4; rw [up2_ne2 q3]; subst e3; exact up2_ne2 q2
  have s2 : c5 4 2 = N 1 p := by subst e5; rw [up2_ne2 (by decide)]; subst e4; rw [up2_ne2 (by decide)]; subst e3; exact up2_self
  have s3 : c5 4 3 = N 2 p := by subst e5; rw [up2_ne2 (by decide)]; subst e4; exact up2_self
  have s4 : c5 4 4 = p := by subst e5; exact up2_self
  have hC5 : CSR H c5 N I (x0X X 3 0) := fg_C hC (fun k q j => (n5 k q j).trans (o1 k q j)) (by rw [z5 1 (by decide) (by decide) (by decide)]; exact f1)
  have hA : AC H c5 N I (x0X X 3 0) (N 1 p) (N 2 p) p := ⟨hC5, s2, s3, s4⟩
  have l5 : loK c c5 := fun k q j => (n5 k (by omega) j).trans (o1 k (by omega) j)
  have x3 : x0X X 3 0 0 3 = 0 := x0_s
  have h2 : a = 0 ∨ a = 1 ∨ a = 2 := by omega
  rcases h2 with rfl | rfl | rfl
  · exact a_sips (d := d + 12) hA (by omega) rp.1 (by decide) (fun c' A' l' => h1 c' ⟨g1, g2⟩ (by decide) (by decide) (l5.trans l') A'.1)
  · exact a_chats (d := d + 5) hA (by omega) rp.1 (by decide) (fun c' A' l' => h1 c' ⟨g1, g2⟩ (by decide) (by decide) (l5.trans l') A'.1)
  · exact a_tells (d := d) hA (by omega) rp.1 (by decide) (fun c' A' l' => h1 c' ⟨g1, g2⟩ (by decide) (by decide) (l5.trans l') A'.1)
