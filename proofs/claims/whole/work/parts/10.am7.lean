theorem R_eqS_if {K : Launch × Nat × (Nat → Int)} {d : Nat} {y : mth} {kc ks pc pc' : Nat} {L st : List av} {G : hp} {Q : hp → av → Prop} {a off : Int} {tgt : Nat} (hd : decode y.2.1 pc = .ok (.ifCond .eq off, 3)) (ht : (pc : Int) + off = (tgt : Int)) (he : a = 0) (hn : pc + 3 = pc') (k : WP K d y kc ks tgt L st G Q) : WP K d y kc ks pc L ((0, a) :: st) G Q := by
  subst hn
  intro p e s m args below meth c D cA ros fm A n0 ad0 QW ad H locs ls C hR hS hn0 ha hl
  obtain ⟨⟨hx, hb, hml, hr, hlk, hown, hmn, hts, hnw⟩, hK, hSW, hA, hRC⟩ := id C
  subst he; exact lv_if_eq hx hb (x := Int32.ofInt 0) hd ht (fun q => k p e s m args below meth c D cA ros fm A n0 ad0 QW ad H locs ls C hR hS hn0 ha hl) (fun q => absurd rfl q)
theorem R_eqD_if {K : Launch × Nat × (Nat → Int)} {d : Nat} {y : mth} {kc ks pc pc' : Nat} {L st : List av} {G : hp} {Q : hp → av → Prop} {a off : Int} {tgt : Nat} (hd : decode y.2.1 pc = .ok (.ifCond .eq off, 3)) (ht : (pc : Int) + off = (tgt : Int)) (he : ¬ a = 0) (h1 : ir a) (hn : pc + 3 = pc') (k : WP K d y kc ks pc' L st G Q) : WP K d y kc ks pc L ((0, a) :: st) G Q := by
  subst hn
  intro p e s m args below meth c D cA ros fm A n0 ad0 QW ad H locs ls C hR hS hn0 ha hl
  obtain ⟨⟨hx, hb, hml, hr, hlk, hown, hmn, hts, hnw⟩, hK, hSW, hA, hRC⟩ := id C
  exact lv_if_eq hx hb (x := Int32.ofInt a) hd ht (fun q => absurd ((i_eq h1 ir0).mp q) he) (fun q => k p e s m args below meth c D cA ros fm A n0 ad0 QW ad H locs ls C hR hS hn0 ha hl)
theorem R_neS_if {K : Launch × Nat × (Nat → Int)} {d : Nat} {y : mth} {kc ks pc pc' : Nat} {L st : List av} {G : hp} {Q : hp → av → Prop} {a off : Int} {tgt : Nat} (hd : decode y.2.1 pc = .ok (.ifCond .ne off, 3)) (ht : (pc : Int) + off = (tgt : Int)) (he : a = 0) (hn : pc + 3 = pc') (k : WP K d y kc ks pc' L st G Q) : WP K d y kc ks pc L ((0, a) :: st) G Q := by
  subst hn
  intro p e s m args below meth c D cA ros fm A n0 ad0 QW ad H locs ls C hR hS hn0 ha hl
  obtain ⟨⟨hx, hb, hml, hr, hlk, hown, hmn, hts, hnw⟩, hK, hSW, hA, hRC⟩ := id C
  subst he; exact lv_if_ne hx hb (x := Int32.ofInt 0) hd ht (fun q => absurd rfl q) (fun q => k p e s m args below meth c D cA ros fm A n0 ad0 QW ad H locs ls C hR hS hn0 ha hl)
theorem R_neD_if {K : Launch × Nat × (Nat → Int)} {d : Nat} {y : mth} {kc ks pc pc' : Nat} {L st : List av} {G : hp} {Q : hp → av → Prop} {a off : Int} {tgt : Nat} (hd : decode y.2.1 pc = .ok (.ifCond .ne off, 3)) (ht : (pc : Int) + off = (tgt : Int)) (he : ¬ a = 0) (h1 : ir a) (hn : pc + 3 = pc') (k : WP K d y kc ks tgt L st G Q) : WP K d y kc ks pc L ((0, a) :: st) G Q := by
  subst hn
  intro p e s m args below meth c D cA ros fm A n0 ad0 QW ad H locs ls C hR hS hn0 ha hl
  obtain ⟨⟨hx, hb, hml, hr, hlk, hown, hmn, hts, hnw⟩, hK, hSW, hA, hRC⟩ := id C
  exact lv_if_ne hx hb (x := Int32.ofInt a) hd ht (fun q => k p e s m args below meth c D cA ros fm A n0 ad0 QW ad H locs ls C hR hS hn0 ha hl) (fun q => absurd ((i_eq h1 ir0).mp q) he)
theorem R_eqS_ic {K : Launch × Nat × (Nat → Int)} {d : Nat} {y : mth} {kc ks pc pc' : Nat} {L st : List av} {G : hp} {Q : hp → av → Prop} {a b off : Int} {tgt : Nat} (hd : decode y.2.1 pc = .ok (.if_icmp .eq off, 3)) (ht : (pc : Int) + off = (tgt : Int)) (he : a = b) (hn : pc + 3 = pc') (k : WP K d y kc ks tgt L st G Q) : WP K d y kc ks pc L ((0, b) :: (0, a) :: st) G Q := by
  subst hn
  intro p e s m args below meth c D cA ros fm A n0 ad0 QW ad H locs ls C hR hS hn0 ha hl
  obtain ⟨⟨hx, hb, hml, hr, hlk, hown, hmn, hts, hnw⟩, hK, hSW, hA, hRC⟩ := id C
  subst he; exact lv_icmp_eq hx hb (x := Int32.ofInt a) (y := Int32.ofInt a) hd ht (fun q => k p e s m args below meth c D cA ros fm A n0 ad0 QW ad H locs ls C hR hS hn0 ha hl) (fun q => absurd rfl q)
theorem R_eqD_ic {K : Launch × Nat × (Nat → Int)} {d : Nat} {y : mth} {kc ks pc pc' : Nat} {L st : List av} {G : hp} {Q : hp → av → Prop} {a b off : Int} {tgt : Nat} (hd : decode y.2.1 pc = .ok (.if_icmp .eq off, 3)) (ht : (pc : Int) + off = (tgt : Int)) (he : ¬ a = b) (h12 : ir a ∧ ir b) (hn : pc + 3 = pc') (k : WP K d y kc ks pc' L st G Q) : WP K d y kc ks pc L ((0, b) :: (0, a) :: st) G Q := by
  subst hn
  intro p e s m args below meth c D cA ros fm A n0 ad0 QW ad H locs ls C hR hS hn0 ha hl
  obtain ⟨⟨hx, hb, hml, hr, hlk, hown, hmn, hts, hnw⟩, hK, hSW, hA, hRC⟩ := id C
  exact lv_icmp_eq hx hb (x := Int32.ofInt a) (y := Int32.ofInt b) hd ht (fun q => absurd ((i_eq h12.1 h12.2).mp q) he) (fun q => k p e s m args below meth c D cA ros fm A n0 ad0 QW ad H locs ls C hR hS hn0 ha hl)
theorem R_neS_ic {K : Launch × Nat × (Nat → Int)} {d : Nat} {y : mth} {kc ks pc pc' : Nat} {L st : List av} {G : hp} {Q : hp → av → Prop} {a b off : Int} {tgt : Nat} (hd : decode y.2.1 pc = .ok (.if_icmp .ne off, 3)) (ht : (pc : Int) + off = (tgt : Int)) (he : a = b) (hn : pc + 3 = pc') (k : WP K d y kc ks pc' L st G Q) : WP K d y kc ks pc L ((0, b) :: (0, a) :: st) G Q := by
  subst hn
  intro p e s m args below meth c D cA ros fm A n0 ad0 QW ad H locs ls C hR hS hn0 ha hl
  obtain ⟨⟨hx, hb, hml, hr, hlk, hown, hmn, hts, hnw⟩, hK, hSW, hA, hRC⟩ := id C
  subst he; exact lv_icmp_ne hx hb (x := Int32.ofInt a) (y := Int32.ofInt a) hd ht (fun q => absurd rfl q) (fun q => k p e s m args below meth c D cA ros fm A n0 ad0 QW ad H locs ls C hR hS hn0 ha hl)
theorem R_neD_ic {K : Launch × Nat × (Nat → Int)} {d : Nat} {y : mth} {kc ks pc pc' : Nat} {L st : List av} {G : hp} {Q : hp → av → Prop} {a b off : Int} {tgt : Nat} (hd : decode y.2.1 pc = .ok (.if_icmp .ne off, 3)) (ht : (pc : Int) + off = (tgt : Int)) (he : ¬ a = b) (h12 : ir a ∧ ir b) (hn : pc + 3 = pc') (k : WP K d y kc ks tgt L st G Q) : WP K d y kc ks pc L ((0, b) :: (0, a) :: st) G Q := by
  subst hn
  intro p e s m args below meth c D cA ros fm A n0 ad0 QW ad H locs ls C hR hS hn0 ha hl
  obtain ⟨⟨hx, hb, hml, hr, hlk, hown, hmn, hts, hnw⟩, hK, hSW, hA, hRC⟩ := id C
  exact lv_icmp_ne hx hb (x := Int32.ofInt a) (y := Int32.ofInt b) hd ht (fun q => k p e s m args below meth c D cA ros fm A n0 ad0 QW ad H locs ls C hR hS hn0 ha hl) (fun q => absurd ((i_eq h12.1 h12.2).mp q) he)
theorem Q_alen10 {K : Launch × Nat × (Nat → Int)} {d : Nat} {y : mth} {kc ks pc pc' : Nat} {L st : List av} {c : ct} {Q : hp → av → Prop} {x N : Int} {len : Nat} (hN : (len : Int) = N) (hd : decode y.2.1 pc = .ok (.arraylength, 1)) (hc : isS x 10 len) (hn : pc + 1 = pc') (k : WP K d y kc ks pc' L ((0, N) :: st) (wG c) Q) : WP K d y kc ks pc L ((2, x) :: st) (wG c) Q := by
  subst hN
  exact R_alen10 hd (hc.C c) hn k
theorem Q_alen12 {K : Launch × Nat × (Nat → Int)} {d : Nat} {y : mth} {kc ks pc pc' : Nat} {L st : List av} {c : ct} {Q : hp → av → Prop} {x N : Int} {len : Nat} (hN : (len : Int) = N) (hd : decode y.2.1 pc = .ok (.arraylength, 1)) (hc : isS x 12 len) (hn : pc + 1 = pc') (k : WP K d y kc ks pc' L ((0, N) :: st) (wG c) Q) : WP K d y kc ks pc L ((2, x) :: st) (wG c) Q := by
  subst hN
  exact R_alen12 hd (hc.C c) hn k
theorem ir_l {a : Int} (h1 : -2147483648 ≤ a) (h2 : a ≤ 2147483647) : ir a := ⟨h1, h2⟩
theorem row_len {t : Int} {n : Nat} (h : isRow t n) : n ≤ 2147483648 := by rcases h with ⟨_, rfl⟩ | ⟨_, rfl⟩ | ⟨_, rfl⟩ <;> decide
theorem row_len2 {t : Int} {n : Nat} (h : isRow t n) : n ≤ 65536 := by rcases h with ⟨_, rfl⟩ | ⟨_, rfl⟩ | ⟨_, rfl⟩ <;> decide
theorem il0 : il 0 := ⟨by decide, by decide⟩
