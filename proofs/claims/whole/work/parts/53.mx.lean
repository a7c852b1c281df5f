/-! CONTRACTS: the reference's fond -/
def cnG (G : ct) (p o : Int) : Int := if (G 6 o = 0 ∧ ¬ G 1 o = 4) ∧ (G 3 o = aft (G 3 p) ∨ G 3 o = ahd (G 3 p)) then 1 else 0
theorem nbG_mk {G : ct} {p : Int} : nbG G p = mkR (cnG G p) (G 0 10) := by
  unfold nbG mkR
  refine smR_congr _ _ (fun o _ _ => ?_)
  unfold cnG
  split <;> simp
theorem sm_lin {f g : Int → Int} {a b : Int} : ∀ (n : Nat) (i : Int), smR (fun o => a * f o - b * g o) n i = a * smR f n i - b * smR g n i := by
  intro n
  induction n with
  | zero => intro i; simp [smR]
  | succ n ih => intro i; rw [smR, smR, smR, ih, Int.mul_add, Int.mul_add]; omega
theorem smG_two {H : hf} {G : ct} {Y p : Int} : smG H G Y p = smR (fun o => cnG G p o * lkG H G Y p o) (G 0 10).toNat 0 - sis1 (G 1 p) * G 2 p * smR (fun o => cnG G p o * sis1 (G 1 o)) (G 0 10).toNat 0 := by
  have e := sm_lin (f := fun o => cnG G p o * lkG H G Y p o) (g := fun o => cnG G p o * sis1 (G 1 o)) (a := 1) (b := sis1 (G 1 p) * G 2 p) (G 0 10).toNat 0
  rw [Int.one_mul] at e
  rw [← e]
  unfold smG
  refine smR_congr _ _ (fun o _ _ => ?_)
  unfold cnG tmG
  split
  · rw [Int.one_mul, Int.one_mul, Int.one_mul, Int.mul_assoc, Int.mul_assoc, Int.mul_comm (sis1 (G 1 o))]
  · simp
