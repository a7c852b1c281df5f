/-! LAW: what stands between two steps -/
def IL (X : ct) : Prop := ∀ t, 0 ≤ t → t < 6 → ∀ i, 0 ≤ i → i < 60 → il (X (10 + t) i)
def LI (c : ct) : Prop := ∃ H : hf, ∃ N I X : ct, CSR H c N I X ∧ MSR H c N I X ∧ IL X ∧ ir (c 70 2) ∧ ir (c 70 3)
theorem CSR_lo {H : hf} {c c' N I X : ct} (h : CSR H c N I X) (ho : loM c c') : CSR H c' N I X := by
  obtain ⟨h1, h2, h3, h4, h5, h6⟩ := h
  refine ⟨EV_congr h1 (fun k a b j => ho k (by omega) j) (fun k a b j => ho k (by have := hou_in (EV_hou h1) a b; omega) j), EV_congr h2 (fun k a b j => ho k (by omega) j) (fun k a b j => ho k (by have := hou_in (EV_hou h2) a b; omega) j), h3, fun i a b => ?_, h5, MISC_congr h6 (fun k a b j => ho k (by omega) j)⟩
  exact HR_congr (h4 i a b) (fun k g1 g2 j => ho k (by have := hou_in (hou_is (i := i) ⟨a, by have := h6.2.2.1; omega⟩) g1 g2; omega) j)
theorem MSR_lo {H : hf} {c c' N I X : ct} (h : MSR H c N I X) (hz : SZ N) (hq : ∀ k, 108 ≤ k → ∀ j, c' k j = c k j) : MSR H c' N I X := by
  obtain ⟨h1, h2, h3, h4, h5⟩ := h
  refine ⟨MS_congr h1 hz (fun k j a => hq k (by unfold evP at a; omega) j), by rw [hq 108 (by omega)]; exact h2, ?_, fun i a b => MHR_congr (h4 i a b) (fun k a b j => hq k (by omega) j), MX_congr h5 (fun j a => hq 108 (by omega) j) (fun k a j => hq k (by omega) j)⟩
  rw [vw_congr (c := c) (fun j a b => hq 108 (by omega) j) (fun k a b j => hq k (by omega) j)]
  exact h3
theorem LI_mk {H : hf} {c c2 N I X : ct} (hC : CSR H c N I X) (lo : loM c c2) (hM : MSR H c2 N I X) (hl : IL X) (h2 : ir (c 70 2)) (h3 : ir (c 70 3)) : LI c2 :=
  ⟨H, N, I, X, CSR_lo hC lo, hM, hl, by rw [lo 70 (by omega)]; exact h2, by rw [lo 70 (by omega)]; exact h3⟩
theorem IL_x0 {X : ct} {p v : Int} (h : IL X) : IL (x0X X p v) := fun t a b i c d => by
  unfold x0X; rw [if_neg (by omega)]; exact h t a b i c d
theorem IL_fd {X : ct} {v : Int} (h : IL X) : IL (fdX X v) := fun t a b i c d => by
  unfold fdX; rw [if_neg (by omega), if_neg (by omega)]; exact h t a b i c d
theorem IL_psh {l : List Int} : ∀ {X : ct}, IL X → IL (pshL X l) := by
  induction l with
  | nil => exact fun h => h
  | cons b l ih => exact fun {X} h => ih (X := pshX X b) (fun t a b i c d => by unfold pshX; rw [if_neg (by omega), if_neg (by omega)]; exact h t a b i c d)
theorem IL_tp {X : ct} {t s l : Int} {f : Int → Int} (h : IL X) (hf : ∀ i, 0 ≤ i → i < 60 → il (f i)) : IL (tpX X t s l f) := fun u a b i c d => by
  unfold tpX
  rw [if_neg (by omega), if_neg (by omega)]
  by_cases e : 10 + u = 10 + t
  · rw [if_pos e]; exact hf i c d
  · rw [if_neg e]; exact h u a b i c d
theorem il_0 : il 0 := ⟨by decide, by decide⟩
theorem il_ir {x : Int} (h : ir x) : il x := ⟨by have := h.1; omega, by have := h.2; omega⟩
theorem il_nr {s z : Int} (h : il z) : il (nrG s z) := by
  unfold nrG
  split
  · exact il_ir (ir_toInt _)
  · split
    · exact il_ir (ir_toInt _)
    · split
      · exact il_ir (ir_toInt _)
      · split
        · exact h
        · split
          · exact ⟨by decide, by decide⟩
          · exact ⟨by decide, by decide⟩
theorem ir_70 {c c' : ct} {j : Int} (lo : loK c c') (h : ir (c 70 j)) : ir (c' 70 j) := by rw [lo 70 (Or.inr rfl)]; exact h
