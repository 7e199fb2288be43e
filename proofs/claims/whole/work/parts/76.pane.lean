/-- the day that a pane of kind k, number n, shift s gives on a day -/
def onV (k n s d : Int32) : Int32 := if k = 4 then d else if k = 5 then d + s * (n + 1) else if k = 1 ∨ k = 3 then d + s - n else d + s
def letV (k n d o : Int32) : Bool := if k = 5 then decide (d - d / (n + 1) * (n + 1) = 0) else if k = 3 then true else if k = 2 then decide (o = 1) else if k = 4 then decide (o = 0) else decide (o = 0) || decide (o = 1)
def passV (k n s d o : Int32) : Bool := rg 32 (onV k n s d) && letV k n d o
def leadV (k r t : Int32) : Int32 := if k = 4 then r else t
def PRg (k n s r t : Int32) : Prop := (0 ≤ k.toInt ∧ k.toInt ≤ 5) ∧ (0 ≤ n.toInt ∧ n.toInt ≤ 9) ∧ (-9 ≤ s.toInt ∧ s.toInt ≤ 9) ∧ (0 ≤ r.toInt ∧ r.toInt < 6) ∧ (0 ≤ t.toInt ∧ t.toInt < 6)
theorem s8_on (C : wg_C) (p : Nat) (d : Int32) : f_X1_on C p d = some (onV (C p 1) (C p 2) (C p 3) d) := by
  unfold f_X1_on f_X1_on_j40 onV
  simp only [lt_eq]
  generalize C p 1 = k
  by_cases h1 : k = 1
  · simp [h1]
  by_cases h2 : k = 2
  · simp [h2]
  by_cases h3 : k = 3
  · simp [h3]
  by_cases h4 : k = 4
  · simp [h4]
  by_cases h5 : k = 5
  · simp [h5]
  simp [h1, h2, h3, h4, h5]
theorem s9_on (M : wg_M) (p d : Int32) (hp : inb p 8) : f_X9_on M p d = some (onV (M.1 60 p.toNatClampNeg) (M.1 61 p.toNatClampNeg) (M.1 62 p.toNatClampNeg) d) := by
  unfold f_X9_on f_X9_on_j47 lt_ onV
  simp only [ck_pos hp]
  split
  · rfl
  split
  · rfl
  split
  · rename_i h; simp [h]
  split
  · rename_i h; simp [h]
  simp [*]
theorem s8_leads (C : wg_C) (p : Nat) : f_X1_leads C p = some (leadV (C p 1) (C p 4) (C p 5)) := by
  unfold f_X1_leads leadV
  split <;> rfl
theorem s9_leads (M : wg_M) (p : Int32) (hp : inb p 8) : f_X9_leads M p = some (leadV (M.1 60 p.toNatClampNeg) (M.1 63 p.toNatClampNeg) (M.1 64 p.toNatClampNeg)) := by
  unfold f_X9_leads leadV
  simp only [ck_pos hp]
  split <;> rfl
theorem n1_ne {n : Int32} (h : 0 ≤ n.toInt ∧ n.toInt ≤ 9) : ¬ n + 1 = 0 := by
  rw [i_eq, i_add]
  simp only [Int32.toInt_one, Int32.toInt_zero]
  omega
theorem s8_lets (C : wg_C) (p : Nat) (d o : Int32) (hn : 0 ≤ (C p 2).toInt ∧ (C p 2).toInt ≤ 9) : f_X1_lets C p d o = some (bI (letV (C p 1) (C p 2) d o = true)) := by
  have hlt : ¬ C p 2 < 0 := by
    rw [i_lt]
    simp only [Int32.toInt_zero]
    omega
  unfold f_X1_lets lt_ letV bI
  simp only [ck_pos (n1_ne hn), if_neg hlt]
  by_cases h5 : C p 1 = 5
  · simp only [h5]
    by_cases hq : d - d / (C p 2 + 1) * (C p 2 + 1) = 0 <;> simp [hq]
  by_cases h3 : C p 1 = 3
  · simp [h3]
  by_cases h2 : C p 1 = 2
  · by_cases hq : o = 1 <;> simp [h2, hq]
  by_cases h4 : C p 1 = 4
  · by_cases hq : o = 0 <;> simp [h4, hq]
  simp only [h5, h3, h2, h4, if_false]
  by_cases hq : o = 0
  · simp [hq]
  by_cases hr : o = 1 <;> simp [hq, hr]
theorem s8_passes (C : wg_C) (p : Nat) (d o : Int32) (hn : 0 ≤ (C p 2).toInt ∧ (C p 2).toInt ≤ 9) : f_X1_passes C p d o = some (bI (passV (C p 1) (C p 2) (C p 3) d o = true)) := by
  unfold f_X1_passes
  simp only [s8_on, bd_eq, s8_isDay, s8_lets C p d o hn, bI_eq0]
  unfold passV
  by_cases h1 : rg 32 (onV (C p 1) (C p 2) (C p 3) d) = true
  · by_cases h2 : letV (C p 1) (C p 2) d o = true
    · simp [h1, h2, bI]
    · simp [h2, bI]
  · simp [h1, bI]
theorem s9_passes (M : wg_M) (p d o : Int32) (hp : inb p 8) (hk : 0 ≤ (M.1 60 p.toNatClampNeg).toInt ∧ (M.1 60 p.toNatClampNeg).toInt ≤ 5) (hn : 0 ≤ (M.1 61 p.toNatClampNeg).toInt ∧ (M.1 61 p.toNatClampNeg).toInt ≤ 9) (ho : 0 ≤ o.toInt ∧ o.toInt < 3) : f_X9_passes M p d o = some (bI (passV (M.1 60 p.toNatClampNeg) (M.1 61 p.toNatClampNeg) (M.1 62 p.toNatClampNeg) d o = true)) := by
  unfold f_X9_passes f_X9_passes_j64
  simp only [s9_on M p d hp, bd_eq, s9_isDay, bI_eq0, ck_pos hp, ck_pos (n1_ne hn), lt_eq]
  generalize hon : onV (M.1 60 p.toNatClampNeg) (M.1 61 p.toNatClampNeg) (M.1 62 p.toNatClampNeg) d = w
  unfold passV letV bI
  rw [hon]
  generalize M.1 60 p.toNatClampNeg = k at *
  generalize M.1 61 p.toNatClampNeg = n at *
  by_cases h1 : rg 32 w = true
  · simp only [h1, not_true, if_false, Bool.true_and]
    have e2 : ((2 : Int32) ≤ o) ↔ ¬ (o = 0 ∨ o = 1) := by
      simp only [i_le, i_eq]
      show (2 : Int) ≤ _ ↔ ¬ (_ = (0 : Int) ∨ _ = (1 : Int))
      omega
    by_cases h5 : k = 5
    · by_cases hq : d - d / (n + 1) * (n + 1) = 0 <;> simp [h5, hq]
    by_cases h3 : k = 3
    · simp [h3]
    by_cases h2 : k = 2
    · by_cases hq : o = 1 <;> simp [h2, hq]
    by_cases h4 : k = 4
    · by_cases hq : o = 0 <;> simp [h4, hq]
    have h01 : k = 0 ∨ k = 1 := by
      simp only [i_eq] at *
      simp only [show (5 : Int32).toInt = 5 from rfl, show (4 : Int32).toInt = 4 from rfl, show (3 : Int32).toInt = 3 from rfl, show (2 : Int32).toInt = 2 from rfl, show (1 : Int32).toInt = 1 from rfl, show (0 : Int32).toInt = 0 from rfl] at *
      omega
    simp only [e2]
    rcases h01 with h01 | h01 <;> by_cases hq : o = 0 <;> by_cases hr : o = 1 <;> simp [h01, hq, hr]
  · simp [h1]
theorem s8_has (C : wg_C) (n : Nat) (h : (C 1 2).toInt = n) (d : Int32) : f_X0_has C d = some (bI (rg n d = true)) := by
  rw [← bI_rg]
  unfold f_X0_has bI
  simp only [i_lt, i_le, h]
  repeat' split
  all_goals first | rfl | (exfalso; simp at *; omega)
theorem s8_isKind (d : Int32) : f_X8_isKind d = some (bI (rg 6 d = true)) := by
  rw [← bI_rg]
  unfold f_X8_isKind bI
  simp only [i_lt]
  repeat' split
  all_goals first | rfl | (exfalso; simp at *; omega)
theorem s8_isSheet (d : Int32) : f_X8_isSheet d = some (bI (rg 4 d = true)) := by
  rw [← bI_rg]
  unfold f_X8_isSheet bI
  simp only [i_lt, i_le]
  repeat' split
  all_goals first | rfl | (exfalso; simp at *; omega)
theorem s8_isRowSort (d : Int32) : f_X8_isRowSort d = some (bI (rg 3 d = true)) := by
  rw [← bI_rg]
  unfold f_X8_isRowSort bI
  simp only [i_lt]
  repeat' split
  all_goals first | rfl | (exfalso; simp at *; omega)
theorem s9_isSheet (d : Int32) : f_X9_isSheet d = some (bI (rg 4 d = true)) := by
  rw [← bI_rg]
  unfold f_X9_isSheet
  rw [s_in, bd_eq, ck_bI]
  congr 1
  apply bI_congr
  simp only [Int32.toInt_toInt64]
  show (0 : Int) ≤ _ ∧ _ ≤ (3 : Int) ↔ _
  omega
