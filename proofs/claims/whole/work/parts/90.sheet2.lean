theorem s8_sheet (C : wg_C) (s o n : Int32) : f_X8_sheet NN C s o n = some (if rg 4 s = true then if o = -1 then (1, sheetC C s.toNatClampNeg (-1) 0) else if rg 3 o = true then if 40 < n.toInt then (-2, C) else if n.toInt < 0 then (-14, C) else (1, sheetC C s.toNatClampNeg o n) else (-2, C) else (-2, C)) := by
  unfold f_X8_sheet f_X8_sheet_j22
  simp only [s8_isSheet, s8_isRowSort, s8_sbec, bd_eq, if_bI]
  by_cases g1 : rg 4 s = true
  · simp only [g1, if_true, ck_pos (inb_of g1 (Nat.le_refl _))]
    by_cases g2 : o = -1
    · simp only [g2, if_true]; rfl
    · simp only [g2, if_false]
      by_cases g3 : rg 3 o = true
      · simp only [g3, if_true, i_le, Int32.toInt_zero, show (40 : Int32).toInt = 40 from rfl]
        by_cases g4 : 40 < n.toInt
        · rw [if_neg (by omega), if_pos g4]
        · rw [if_pos (by omega), if_neg g4]
          by_cases g5 : n.toInt < 0
          · rw [if_neg (by omega), if_pos g5]
          · rw [if_pos (by omega), if_neg g5]; rfl
      · simp only [g3]; rfl
  · simp only [g1]; rfl
theorem s9_sheet (M : wg_M) (s o n : Int32) : f_X9_sheet NN M s o n = some (if rg 4 s = true then if o = -1 then (1, sheetM M s.toNatClampNeg (-1) n) else if rg 3 o = true then if 40 < n.toInt then (-2, M) else if n.toInt < 0 then (-14, M) else (1, sheetM M s.toNatClampNeg o n) else (-2, M) else (-2, M)) := by
  unfold f_X9_sheet f_X9_sheet_j34 f_X9_sheet_j45 f_X9_sheet_j59
  simp only [s9_isSheet, s_inl o (-1) 2 (-1) 2 rfl rfl, bd_eq, if_bI, lt_eq]
  by_cases g1 : rg 4 s = true
  · simp only [g1, if_true, ck_pos (inb_of g1 (Nat.le_refl _))]
    by_cases g2 : o = -1
    · subst g2
      rw [if_pos (by decide)]
      simp only [show (-1 : Int32) < 0 by decide, if_true]
      rw [s9_zero0 _ _ _ _ (by decide)]
      unfold sheetM
      rw [if_pos (by decide)]
      rfl
    · simp only [g2, if_false]
      have e2 : ¬ o.toInt = -1 := fun e => g2 ((i_eq o (-1)).mpr e)
      by_cases g3 : rg 3 o = true
      · have q := (rg_iff 3 o).mp g3
        have o0 : ¬ o < 0 := by rw [i_lt, Int32.toInt_zero]; omega
        rw [if_pos (by omega)]
        simp only [g3, if_true, o0, if_false]
        have l1 : n ≤ 40 ↔ ¬ 40 < n.toInt := by rw [i_le, show (40 : Int32).toInt = 40 from rfl]; omega
        have l2 : 0 ≤ n ↔ ¬ n.toInt < 0 := by rw [i_le, Int32.toInt_zero]; omega
        simp only [l1, l2]
        by_cases g4 : 40 < n.toInt
        · simp only [g4, not_true, if_false, if_true]
        · simp only [g4, not_false_eq_true, if_true, if_false]
          by_cases g5 : n.toInt < 0
          · simp only [g5, not_true, if_false, if_true]
          · simp only [g5, not_false_eq_true, if_true, if_false]
            rw [s9_zero _ s o n n.toNatClampNeg g1 o0 (by rw [i_cl]; omega) (oN_eq (by rw [i_cl]; omega))]
            unfold sheetM
            rw [if_neg o0]
            rfl
      · have q : ¬ (0 ≤ o.toInt ∧ o.toInt < 3) := fun e => g3 ((rg_iff 3 o).mpr e)
        rw [if_neg (by omega)]
        simp only [g3]; rfl
  · simp only [g1]; rfl
theorem h_sheet : H_sheet wInv := by
  intro S C M h hw s o n
  rw [s8_sheet, s9_sheet]
  by_cases g1 : rg 4 s = true
  · have hl := cl_lt g1
    simp only [g1, if_true]
    by_cases g2 : o = -1
    · simp only [g2, if_true]
      exact ⟨_, _, _, rfl, rfl, h.sheet0 hl n⟩
    · simp only [g2, if_false]
      by_cases g3 : rg 3 o = true
      · simp only [g3, if_true]
        by_cases g4 : 40 < n.toInt
        · simp only [g4, if_true]
          exact ⟨_, _, _, rfl, rfl, h⟩
        · by_cases g5 : n.toInt < 0
          · simp only [g4, g5, if_false, if_true]
            exact ⟨_, _, _, rfl, rfl, h⟩
          · simp only [g4, g5, if_false]
            exact ⟨_, _, _, rfl, rfl, h.sheet hl g3 ((rg_iff 41 n).mpr (by omega))⟩
      · simp only [g3]
        exact ⟨_, _, _, rfl, rfl, h⟩
  · simp only [g1]
    exact ⟨_, _, _, rfl, rfl, h⟩
