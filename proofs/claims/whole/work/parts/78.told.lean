theorem cl_lt {p : Int32} {n : Nat} (h : rg n p = true) : p.toNatClampNeg < n := by
  rw [rg_iff] at h
  rw [i_cl]
  omega
theorem inb_of {p : Int32} {n m : Nat} (h : rg n p = true) (hm : n ≤ m) : inb p m := by
  rw [rg_iff] at h
  rw [i_inb]
  omega
theorem s_inl (a : Int32) (b c : Int64) (x y : Int) (hb : b.toInt = x) (hc : c.toInt = y) : f_X9_in a.toInt64 b c = some (bI (x ≤ a.toInt ∧ a.toInt ≤ y)) := by
  rw [s_in]
  simp only [Int32.toInt_toInt64, hb, hc]
theorem s_inr (a : Int32) (c : Int64) (n : Nat) (hc : c.toInt = (n : Int) - 1) : f_X9_in a.toInt64 0 c = some (bI (rg n a = true)) := by
  rw [s_inl a 0 c 0 (n - 1) rfl hc, ← bI_rg]
  congr 1
  apply bI_congr
  omega
theorem w06 (w : Int32) : rg 7 w = true ↔ (w = 0 ∨ w = 1 ∨ w = 2 ∨ w = 3 ∨ w = 4 ∨ w = 5 ∨ w = 6) := by
  rw [rg_iff]
  simp only [i_eq]
  show (0 : Int) ≤ _ ∧ _ < (7 : Int) ↔ _ = (0 : Int) ∨ _ = (1 : Int) ∨ _ = (2 : Int) ∨ _ = (3 : Int) ∨ _ = (4 : Int) ∨ _ = (5 : Int) ∨ _ = (6 : Int)
  omega
def toldV (np : Nat) (C : wg_C) (p w : Int32) : Int32 := if w = 0 then (if rg 32 p = true then C 2 p.toNatClampNeg else -100) else if rg np p = true then (if w = 1 then C (4 + p.toNatClampNeg) 2 else if w = 2 then C (4 + p.toNatClampNeg) 3 else if w = 3 then C (4 + p.toNatClampNeg) 4 else if w = 4 then C (4 + p.toNatClampNeg) 5 else if w = 5 then C (4 + p.toNatClampNeg) 1 else if w = 6 then leadV (C (4 + p.toNatClampNeg) 1) (C (4 + p.toNatClampNeg) 4) (C (4 + p.toNatClampNeg) 5) else -100) else -100
theorem s8_told {np : Nat} {C : wg_C} {M : wg_M} (h : IHo np C M) (p w : Int32) : f_X8_told C p w = some (toldV np C p w) := by
  obtain ⟨h1, h2, h3, h4, h5, h6⟩ := h
  unfold f_X8_told toldV
  simp only [s8_isDay, s8_has C np h2, bd_eq, bI_eq0]
  by_cases hw : w = 0
  · by_cases hd : rg 32 p = true
    · simp only [hw, hd, not_true, if_true, if_false, ck_pos (inb_of hd (Nat.le_refl _))]
    · simp only [hw, hd, not_false_eq_true, if_true, if_false]; rfl
  · by_cases hd : rg np p = true
    · simp only [hw, hd, not_true, if_true, if_false, ck_pos (inb_of hd h1)]
      unfold f_X1_tell
      simp only [s8_leads, bd_eq]
      repeat' split
      all_goals rfl
    · simp only [hw, hd, not_false_eq_true, if_true, if_false]; rfl
theorem s9_told {np : Nat} {C : wg_C} {M : wg_M} (h : IHo np C M) (p w : Int32) : f_X9_told M p w = some (toldV np C p w) := by
  obtain ⟨h1, h2, h3, h4, h5, h6⟩ := h
  unfold f_X9_told f_X9_told_j37 toldV
  simp only [s_inr w 6 7 rfl, s9_isDay, s9_isPane M np h1 (by rw [h3]; exact h2), bd_eq, bI_eq0, w06]
  by_cases w0 : w = 0
  · subst w0
    by_cases hd : rg 32 p = true
    · simp only [hd, ck_pos (inb_of hd (Nat.le_refl _)), (h4 _ (cl_lt hd)).1, show ¬ (3 : Int32) ≤ 0 by decide, not_true, if_true, if_false, true_or]
    · simp only [hd, not_true, not_false_eq_true, if_true, if_false, true_or]; rfl
  · by_cases hd : rg np p = true
    · obtain ⟨k1, k2, k3, k4, k5, k6⟩ := h6 _ (cl_lt hd)
      have hi := inb_of hd h1
      simp only [s9_leads M p hi, ck_pos hi, hd, k1, k2, k3, k4, k5, bd_eq, w0, false_or, if_false]
      by_cases w1 : w = 1
      · subst w1; rfl
      by_cases w2 : w = 2
      · subst w2; rfl
      by_cases w3 : w = 3
      · subst w3; rfl
      by_cases w4 : w = 4
      · subst w4; rfl
      by_cases w5 : w = 5
      · subst w5; rfl
      by_cases w6 : w = 6
      · subst w6; rfl
      simp only [w1, w2, w3, w4, w5, w6, or_self, not_false_eq_true, if_true, if_false]
    · simp only [w0, hd, if_false, not_false_eq_true, if_true, ite_self]; simp
theorem h_told : H_told wInv := by
  intro S C M h hw a1 a2
  obtain ⟨hs, np, nt, h1, h2, h3, h4, h5, h6, h7⟩ := id h
  exact ⟨_, s8_told h1 a1 a2, s9_told h1 a1 a2, trivial⟩
