def fitV (w v : Int32) : Bool := if w = 0 then rg 10 v else if w = 1 then rg 10 v else if w = 2 then decide (-9 ≤ v.toInt ∧ v.toInt ≤ 9) else if w = 3 then rg 6 v else if w = 4 then rg 6 v else false
theorem s8_fits (w v : Int32) : f_X8_fits w v = some (bI (fitV w v = true)) := by
  unfold f_X8_fits fitV
  simp only [s8_isRoom, bd_eq, ck_bI]
  have e1 : (if v < 0 then (some 0 : Option Int32) else if 9 < v then some 0 else some 1) = some (bI (rg 10 v = true)) := by
    rw [← bI_rg]
    unfold bI
    simp only [i_lt]
    repeat' split
    all_goals first | rfl | (exfalso; simp at *; omega)
  have e2 : (if v < -9 then (some 0 : Option Int32) else if 9 < v then some 0 else some 1) = some (bI (decide (-9 ≤ v.toInt ∧ v.toInt ≤ 9) = true)) := by
    unfold bI
    simp only [i_lt, decide_eq_true_eq]
    repeat' split
    all_goals first | rfl | (exfalso; simp at *; omega)
  rw [e1, e2]
  repeat' split
  all_goals first | rfl | (simp_all; done) | simp [bI]
def okP (np : Nat) (w p : Int32) : Bool := if w = 0 then rg 32 p else rg np p
theorem okP0 (np : Nat) (p : Int32) : okP np 0 p = rg 32 p := rfl
def setC (C : wg_C) (w : Int32) (p : Nat) (v : Int32) : wg_C := if w = 0 then wg_up C 2 p v else if w = 1 then wg_up C (4 + p) 2 v else if w = 2 then wg_up C (4 + p) 3 v else if w = 3 then wg_up C (4 + p) 4 v else wg_up C (4 + p) 5 v
def setM (M : wg_M) (w : Int32) (p : Nat) (v : Int32) : wg_M := if w = 0 then wg_sM M 59 p v else if w = 1 then wg_sM M 61 p v else if w = 2 then wg_sM M 62 p v else if w = 3 then wg_sM M 63 p v else wg_sM M 64 p v
theorem m100 (x : Int32) : x = -100 ↔ x.toInt = -100 := i_eq x (-100)
theorem told_no {np : Nat} {C : wg_C} {M : wg_M} (h : IHo np C M) {p w : Int32} (hw : rg 5 w = true) : toldV np C p w = -100 ↔ ¬ okP np w p = true := by
  obtain ⟨h1, h2, h3, h4, h5, h6⟩ := h
  unfold toldV okP
  by_cases w0 : w = 0
  · simp only [w0, if_true]
    by_cases hd : rg 32 p = true
    · have := h4 _ (cl_lt hd)
      unfold IS at this
      simp only [hd, if_true, not_true, iff_false, m100]
      omega
    · simp [hd]
  · simp only [w0, if_false]
    by_cases hd : rg np p = true
    · obtain ⟨k1, k2, k3, k4, k5, k6⟩ := h6 _ (cl_lt hd)
      unfold PRg at k6
      simp only [hd, if_true, not_true, iff_false, m100]
      rcases (w04 w).mp hw with q | q | q | q | q
      · exact absurd q w0
      · subst q; simp only [if_true]; omega
      · subst q; simp only [show ¬ (2 : Int32) = 1 by decide, if_false, if_true]; omega
      · subst q; simp only [show ¬ (3 : Int32) = 1 by decide, show ¬ (3 : Int32) = 2 by decide, if_false, if_true]; omega
      · subst q; simp only [show ¬ (4 : Int32) = 1 by decide, show ¬ (4 : Int32) = 2 by decide, show ¬ (4 : Int32) = 3 by decide, if_false, if_true]; omega
    · simp [hd]
def setOk (np : Nat) (w p v : Int32) : Bool := rg 5 w && okP np w p && fitV w v
theorem fit5 {w v : Int32} (h : fitV w v = true) : rg 5 w = true := by
  rw [w04]
  unfold fitV at h
  by_cases w0 : w = 0
  · exact Or.inl w0
  by_cases w1 : w = 1
  · exact Or.inr (Or.inl w1)
  by_cases w2 : w = 2
  · exact Or.inr (Or.inr (Or.inl w2))
  by_cases w3 : w = 3
  · exact Or.inr (Or.inr (Or.inr (Or.inl w3)))
  by_cases w4 : w = 4
  · exact Or.inr (Or.inr (Or.inr (Or.inr w4)))
  simp [w0, w1, w2, w3, w4] at h
theorem s8_set {np : Nat} {C : wg_C} {M : wg_M} (h : IHo np C M) (w p v : Int32) : f_X8_set C w p v = some (if setOk np w p v = true then (toldV np C p w, setC C w p.toNatClampNeg v) else (-100, C)) := by
  unfold f_X8_set
  simp only [s8_told h, bd_eq, s8_fits, if_bI]
  by_cases hf : fitV w v = true
  · have h5 := fit5 hf
    rw [if_pos hf]
    by_cases ho : okP np w p = true
    · rw [if_neg (fun e => (told_no h h5).mp e ho)]
      have hso : setOk np w p v = true := by simp [setOk, h5, ho, hf]
      rw [if_pos hso]
      unfold okP at ho
      unfold setC
      by_cases w0 : w = 0
      · rw [if_pos w0] at ho
        rw [if_pos w0, if_pos w0, ck_pos (inb_of ho (Nat.le_refl _))]
        rfl
      · rw [if_neg w0] at ho
        rw [if_neg w0, if_neg w0, ck_pos (h.in8 ho)]
        unfold f_X1_change
        rcases (w04 w).mp h5 with q | q | q | q | q
        · exact absurd q w0
        all_goals subst q; rfl
    · rw [if_pos ((told_no h h5).mpr ho)]
      have hso : ¬ setOk np w p v = true := by simp [setOk, ho]
      rw [if_neg hso]
  · have hso : ¬ setOk np w p v = true := by simp [setOk, hf]
    rw [if_neg hf, if_neg hso]
    split <;> rfl
theorem s9_set {np : Nat} {C : wg_C} {M : wg_M} (h : IHo np C M) (w p v : Int32) : f_X9_set M w p v = some (if setOk np w p v = true then (toldV np C p w, setM M w p.toNatClampNeg v) else (-100, M)) := by
  unfold f_X9_set f_X9_set_j37 f_X9_set_j51 f_X9_set_j65
  simp only [s_inr w 4 5 rfl, s9_told h, s9_isDay, p9_isPane h, bd_eq, if_bI]
  by_cases h5 : rg 5 w = true
  · rw [if_pos h5]
    by_cases ho : okP np w p = true
    · have hso : setOk np w p v = fitV w v := by simp [setOk, h5, ho]
      rw [hso]
      rcases (w04 w).mp h5 with q | q | q | q | q
      · subst q
        rw [okP0] at ho
        simp only [ho, if_true, ck_pos (inb_of ho (Nat.le_refl _)), lt_eq, show ¬ (0 : Int32) = 2 by decide, if_false, show (0 : Int32) ≤ 2 by decide, s_inr v 9 10 rfl, bd_eq, if_bI]
        rw [show fitV 0 v = rg 10 v from rfl]
        split <;> rfl
      · subst q
        replace ho : rg np p = true := ho
        simp only [ho, if_true, ck_pos (h.in8 ho), lt_eq, show ¬ (1 : Int32) = 0 by decide, show ¬ (1 : Int32) = 2 by decide, show ¬ (1 : Int32) = 3 by decide, show ¬ (1 : Int32) = 4 by decide, if_false, show (1 : Int32) ≤ 2 by decide, s_inr v 9 10 rfl, bd_eq, if_bI]
        rw [show fitV 1 v = rg 10 v from rfl]
        split <;> rfl
      · subst q
        replace ho : rg np p = true := ho
        simp only [ho, if_true, ck_pos (h.in8 ho), lt_eq, show ¬ (2 : Int32) = 0 by decide, show ¬ (2 : Int32) = 1 by decide, show ¬ (2 : Int32) = 3 by decide, show ¬ (2 : Int32) = 4 by decide, if_false, show (2 : Int32) ≤ 2 by decide, s_inl v (-9) 9 (-9) 9 rfl rfl, bd_eq, if_bI]
        rw [show fitV 2 v = decide (-9 ≤ v.toInt ∧ v.toInt ≤ 9) from rfl]
        simp only [decide_eq_true_eq]
        split <;> rfl
      · subst q
        replace ho : rg np p = true := ho
        simp only [ho, if_true, ck_pos (h.in8 ho), lt_eq, show ¬ (3 : Int32) = 0 by decide, show ¬ (3 : Int32) = 1 by decide, show ¬ (3 : Int32) = 2 by decide, show ¬ (3 : Int32) = 4 by decide, if_false, show ¬ (3 : Int32) ≤ 2 by decide, s_inr v 5 6 rfl, bd_eq, if_bI]
        rw [show fitV 3 v = rg 6 v from rfl]
        split <;> rfl
      · subst q
        replace ho : rg np p = true := ho
        simp only [ho, if_true, ck_pos (h.in8 ho), lt_eq, show ¬ (4 : Int32) = 0 by decide, show ¬ (4 : Int32) = 1 by decide, show ¬ (4 : Int32) = 2 by decide, show ¬ (4 : Int32) = 3 by decide, if_false, show ¬ (4 : Int32) ≤ 2 by decide, s_inr v 5 6 rfl, bd_eq, if_bI]
        rw [show fitV 4 v = rg 6 v from rfl]
        split <;> rfl
    · have hso : ¬ setOk np w p v = true := by simp [setOk, ho]
      rw [if_neg hso]
      unfold okP at ho
      by_cases w0 : w = 0
      · rw [if_pos w0] at ho
        rw [if_pos w0, if_neg ho]
      · rw [if_neg w0] at ho
        rw [if_neg w0, if_neg ho]
  · have hso : ¬ setOk np w p v = true := by simp [setOk, h5]
    rw [if_neg h5, if_neg hso]
