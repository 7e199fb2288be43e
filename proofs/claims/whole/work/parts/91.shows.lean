/-- what a pane (cell q) shows on a day -/
def showV (C : wg_C) (q : Nat) (d : Int32) : Int32 := if rg 32 d = true then if passP C q d 0 = true then C 2 (onP C q d).toNatClampNeg else -1 else -1
theorem pass_on {C : wg_C} {q : Nat} {d o : Int32} (h : passP C q d o = true) : rg 32 (onP C q d) = true := by
  unfold passP passV at h
  exact ((Bool.and_eq_true _ _).mp h).1
theorem s8_shows (C : wg_C) (q : Nat) (d : Int32) (hn : 0 ≤ (C q 2).toInt ∧ (C q 2).toInt ≤ 9) : f_X0_shows C q d = some (showV C q d) := by
  unfold f_X0_shows showV
  rw [s8_passes C q d 0 hn]
  simp only [s8_isDay, bd_eq, if_bI, p8_on]
  by_cases h1 : rg 32 d = true
  · by_cases h2 : passP C q d 0 = true
    · simp only [h1, h2, if_true, ck_pos (inb_of (pass_on h2) (Nat.le_refl _))]
      rw [if_pos (by exact h2)]
    · simp only [h1, if_true]
      rw [if_neg (by exact h2), if_neg h2]
  · simp only [h1]; rfl
theorem s9_shows {np : Nat} {C : wg_C} {M : wg_M} (h : IHo np C M) {p : Int32} (hp : rg np p = true) (d : Int32) : f_X9_shows M p d = some (showV C (4 + p.toNatClampNeg) d) := by
  unfold f_X9_shows showV
  rw [p9_pass h hp d 0 (by decide)]
  simp only [s9_isDay, bd_eq, if_bI, p9_on h hp]
  by_cases h1 : rg 32 d = true
  · by_cases h2 : passP C (4 + p.toNatClampNeg) d 0 = true
    · simp only [h1, h2, if_true, ck_pos (inb_of (pass_on h2) (Nat.le_refl _)), (h.2.2.2.1 _ (cl_lt (pass_on h2))).1]
    · simp only [h1, h2, if_true]; rfl
  · simp only [h1]; rfl
theorem show_rg {np : Nat} {C : wg_C} {M : wg_M} (h : IHo np C M) (q : Nat) (d : Int32) : -1 ≤ (showV C q d).toInt ∧ (showV C q d).toInt ≤ 9 := by
  unfold showV
  by_cases h1 : rg 32 d = true
  · by_cases h2 : passP C q d 0 = true
    · rw [if_pos h1, if_pos h2]
      have := (h.2.2.2.1 _ (cl_lt (pass_on h2))).2
      omega
    · rw [if_pos h1, if_neg h2]
      decide
  · rw [if_neg h1]
    decide
