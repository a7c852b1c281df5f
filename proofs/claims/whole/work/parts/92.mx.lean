/-! CONSTRUCTORS: every write in its order; what stands when k of them are done -/
def EX : List (Int × Int × Int) := [(0, 4, 1), (0, 6, 2), (0, 8, 3), (4, 0, 5), (0, 10, 4), (0, 11, 6), (7, 0, 8), (7, 2, 9), (7, 3, 10), (7, 5, 5), (7, 6, 6), (12, 3, 5), (12, 0, 13), (12, 1, 14), (12, 2, 15), (11, 1, 12), (16, 3, 10), (16, 0, 17), (16, 1, 18), (16, 2, 19), (11, 2, 16), (20, 3, 8), (20, 0, 21), (20, 1, 22), (20, 2, 23), (11, 3, 20), (24, 0, 25), (24, 1, 26), (24, 2, 27), (24, 3, 28), (24, 4, 29), (24, 5, 30), (24, 6, 31), (24, 7, 32), (24, 8, 33), (24, 9, 34), (24, 13, 7), (32, 0, -1), (32, 1, -1), (32, 2, -1), (32, 3, -1), (32, 4, -1), (32, 5, -1), (11, 0, 24), (0, 0, 11), (36, 3, 5), (36, 0, 37), (36, 1, 38), (36, 2, 39), (35, 1, 36), (40, 3, 10), (40, 0, 41), (40, 1, 42), (40, 2, 43), (35, 2, 40), (44, 3, 8), (44, 0, 45), (44, 1, 46), (44, 2, 47), (35, 3, 44), (48, 0, 49), (48, 1, 50), (48, 2, 51), (48, 3, 52), (48, 4, 53), (48, 5, 54), (48, 6, 55), (48, 7, 56), (48, 8, 57), (48, 9, 58), (48, 13, 7), (56, 0, -1), (56, 1, -1), (56, 2, -1), (56, 3, -1), (56, 4, -1), (56, 5, -1), (35, 0, 48), (0, 1, 35), (59, 0, 60), (59, 1, 61), (59, 2, 62), (59, 3, 63), (59, 4, 64), (59, 5, 65), (59, 6, 66), (59, 7, 67), (59, 8, 68), (59, 9, 69), (59, 13, 7), (67, 0, -1), (67, 1, -1), (67, 2, -1), (67, 3, -1), (67, 4, -1), (67, 5, -1), (0, 3, 59), (70, 1, 71), (70, 0, 59), (0, 9, 70), (72, 0, 73), (72, 2, 74), (72, 3, 75), (72, 5, 5), (72, 6, 6), (2, 0, 72), (76, 0, 77), (76, 2, 78), (76, 3, 79), (76, 5, 5), (76, 6, 6), (2, 1, 76), (80, 0, 81), (80, 2, 82), (80, 3, 83), (80, 5, 5), (80, 6, 6), (2, 2, 80), (84, 0, 85), (84, 2, 86), (84, 3, 87), (84, 5, 5), (84, 6, 6), (2, 3, 84), (88, 0, 89), (88, 2, 90), (88, 3, 91), (88, 5, 5), (88, 6, 6), (2, 4, 88), (92, 0, 93), (92, 2, 94), (92, 3, 95), (92, 5, 5), (92, 6, 6), (2, 5, 92), (96, 0, 97), (96, 1, -1), (6, 0, 96), (98, 0, 99), (98, 1, -1), (6, 1, 98), (100, 0, 101), (100, 1, -1), (6, 2, 100), (102, 0, 103), (102, 1, -1), (6, 3, 102), (104, 0, 105), (104, 1, -1), (6, 4, 104), (106, 0, 107), (106, 1, -1), (6, 5, 106), (108, 0, 0), (108, 1, 0), (108, 2, 0), (108, 3, 0), (108, 4, 0), (108, 5, 109), (108, 6, 110), (108, 7, 111), (108, 8, 112), (108, 9, 113), (108, 10, 0), (108, 11, -1), (108, 12, 0), (108, 13, 0), (108, 14, 0), (108, 15, 114), (108, 16, 115), (108, 17, 116), (108, 18, 117), (108, 19, 118), (108, 20, 119), (108, 21, 120), (108, 22, 121), (108, 23, 0), (108, 24, 0), (108, 25, 0), (122, 0, 98), (122, 1, 101), (122, 2, 97), (122, 3, 114), (122, 4, 115), (122, 5, 104), (122, 6, 117), (122, 7, 110), (122, 8, 116), (122, 9, 104), (122, 10, 105), (122, 11, 114), (122, 12, 115), (122, 13, 116), (122, 14, 119), (122, 15, 105), (122, 16, 110), (122, 17, 100), (122, 18, 111), (122, 19, 119), (108, 26, 122), (108, 27, 123), (108, 28, 124), (108, 29, 9999), (108, 30, 0), (108, 31, 0), (108, 32, 0), (108, 33, 0), (108, 34, 125), (108, 35, 126), (108, 36, 127), (108, 37, 0), (108, 38, 0), (108, 39, 0), (108, 40, 128), (108, 41, 129), (108, 42, 130), (108, 43, 131), (108, 44, 0), (108, 45, 0), (108, 46, 132), (108, 47, 133), (108, 48, 134), (108, 49, 135), (108, 50, 0), (108, 51, -1), (108, 52, 0), (108, 53, 0), (108, 54, 0), (108, 55, 0), (108, 56, 0), (108, 57, 0), (108, 58, 0), (108, 59, 0), (108, 60, 136), (108, 61, 137), (108, 62, 138), (108, 63, 139), (108, 64, 140), (108, 65, 141), (108, 66, 142), (108, 67, 143), (108, 68, 144), (108, 69, 145), (108, 70, 146), (108, 71, 147), (108, 72, 0), (108, 73, 148), (149, 0, -1), (149, 1, -1), (149, 2, -1), (149, 3, -1), (149, 4, -1), (149, 5, -1), (108, 74, 149), (108, 75, 150), (108, 76, 151), (108, 77, 152)]
def CI0 (a b : Int) : Int := match EX.find? (fun e => e.1 == a && e.2.1 == b) with
  | some e => e.2.2
  | none => dfl (SH a.toNat).1 b
def OKc (n k : Nat) (c : ct) : Prop := ∀ a b : Int, 0 ≤ a → a < n → 0 ≤ b → (∀ v, (a, b, v) ∉ EX.drop k) → c a b = CI0 a b
theorem OK_new {n k kd len : Nat} {c : ct} (h : OKc n k c) (hs : SH n = (kd, len)) (ht : (EX.take k).all (fun e => e.1 != (n : Int)) = true) : OKc (n + 1) k (fun a b => if a = (n : Int) then dfl kd b else c a b) := by
  intro a b h0 h1 hb hv
  by_cases e : a = (n : Int)
  · subst e
    show (if (n : Int) = (n : Int) then dfl kd b else c n b) = _
    rw [if_pos rfl]
    have hf : EX.find? (fun e => e.1 == (n : Int) && e.2.1 == b) = none := by
      rw [List.find?_eq_none]
      intro w hw hq
      rw [← List.take_append_drop k EX] at hw
      have hq2 : w.1 = (n : Int) ∧ w.2.1 = b := by simpa using hq
      rcases List.mem_append.mp hw with g | g
      · have := List.all_eq_true.mp ht w g
        simp [hq2.1] at this
      · exact hv w.2.2 (by rw [← hq2.1, ← hq2.2]; exact g)
    unfold CI0
    rw [hf]
    show _ = dfl (SH ((n : Int)).toNat).1 b
    rw [Int.toNat_natCast, hs]
  · show (if a = (n : Int) then dfl kd b else c a b) = _
    rw [if_neg e]
    exact h a b h0 (by omega) hb hv
theorem OK_put {n k : Nat} {x j v : Int} {c : ct} (h : OKc n k c) (he : EX[k]? = some (x, j, v)) (hc : CI0 x j = v) : OKc n (k + 1) (up2 c x j v) := by
  intro a b h0 h1 hb hv
  by_cases e : a = x ∧ b = j
  · obtain ⟨rfl, rfl⟩ := e
    simp only [up2, and_self, if_true]
    exact hc.symm
  · simp only [up2, e, if_false]
    refine h a b h0 h1 hb (fun w hw => ?_)
    obtain ⟨hk, hg⟩ := List.getElem?_eq_some_iff.mp he
    rw [List.drop_eq_getElem_cons hk, hg] at hw
    rcases List.mem_cons.mp hw with g | g
    · injection g with g1 g2
      injection g2 with g3 g4
      exact e ⟨g1, g3⟩
    · exact hv w g
theorem hnew_SH {n kd len : Nat} {c : ct} (hs : SH n = (kd, len)) : hnew (n, SH, c) kd len = (n + 1, SH, fun a b => if a = (n : Int) then dfl kd b else c a b) := by
  have e : (fun k => if k = n then (kd, len) else SH k) = SH := by
    funext k
    by_cases q : k = n
    · rw [if_pos q, q, hs]
    · rw [if_neg q]
  show (n + 1, (fun k => if k = n then (kd, len) else SH k), _) = _
  rw [e]
theorem okR_mk {n : Nat} {l : List av} (h : l.all (fun v => v.1 != 2 || decide (v.2 < n)) = true) : okR n l := by
  intro v hv h2
  have := List.all_eq_true.mp h v hv
  simpa [h2] using this
theorem isC_mk {n : Nat} {c : ct} {x : Int} {kd len : Nat} (h : 0 ≤ x ∧ x < (n : Int)) (hs : SH x.toNat = (kd, len)) : isC (n, SH, c) x kd len := ⟨h.1, h.2, hs⟩
theorem W_new {K : SK} {d : Nat} {y : mth} {kc ks pc : Nat} {L st : List av} {Q : hp → av → Prop} {n k kd len a n1 kc1 ks1 : Nat} {xi : Int} {c : ct} (h : OKc n k c) (hs : SH n = (kd, len)) (ht : (EX.take k).all (fun e => e.1 != (n : Int)) = true) (hx : (n : Int) = xi) (hn1 : n + 1 = n1) (hkc : kc + 1 = kc1) (hks : ks + a = ks1) (K' : ∀ c', OKc n1 k c' → WP K d y kc1 ks1 pc L ((2, xi) :: st) (n1, SH, c') Q) : WP K d y (kc + 1) (ks + a) pc L ((2, ((((n, SH, c) : hp).1 : Nat) : Int)) :: st) (hnew (n, SH, c) kd len) Q := by
  subst hx; subst hn1; subst hkc; subst hks
  rw [hnew_SH hs]
  exact K' _ (OK_new h hs ht)
theorem W_put {K : SK} {d : Nat} {y : mth} {kc ks pc : Nat} {L st : List av} {Q : hp → av → Prop} {n k k1 : Nat} {x j v : Int} {c : ct} (h : OKc n k c) (he : EX[k]? = some (x, j, v)) (hc : CI0 x j = v) (hk1 : k + 1 = k1) (K' : ∀ c', OKc n k1 c' → WP K d y kc ks pc L st (n, SH, c') Q) : WP K d y kc ks pc L st (hup (n, SH, c) x j v) Q := by
  subst hk1
  exact K' _ (OK_put h he hc)
theorem OK_rd {n k : Nat} {x j v : Int} {c : ct} (h : OKc n k c) (hb : 0 ≤ x ∧ x < (n : Int) ∧ 0 ≤ j) (hv : CI0 x j = v) (hpp : (EX.drop k).all (fun e => !(e.1 == x && e.2.1 == j)) = true) : c x j = v := by
  rw [← hv]
  refine h x j hb.1 hb.2.1 hb.2.2 (fun w hw => ?_)
  have := List.all_eq_true.mp hpp _ hw
  simp at this
theorem W_get {K : SK} {d : Nat} {y : mth} {kc ks pc : Nat} {L st : List av} {Q : hp → av → Prop} {n k : Nat} {x j v : Int} {c : ct} (h : OKc n k c) (hb : 0 ≤ x ∧ x < (n : Int) ∧ 0 ≤ j) (hv : CI0 x j = v) (hpp : (EX.drop k).all (fun e => !(e.1 == x && e.2.1 == j)) = true) (K' : WP K d y kc ks pc L ((2, v) :: st) (n, SH, c) Q) : WP K d y kc ks pc L ((2, (((n, SH, c) : hp).2.2 x j)) :: st) (n, SH, c) Q := by
  show WP K d y kc ks pc L ((2, c x j) :: st) (n, SH, c) Q
  rw [OK_rd h hb hv hpp]
  exact K'
