theorem i_rem (a b : Int32) (h : 0 ≤ a.toInt) (hb : 0 < b.toInt) : (a - a / b * b).toInt = a.toInt % b.toInt := by
  have h1 := i_up a
  have h2 := i_up b
  have e1 : 0 ≤ a.toInt / b.toInt * b.toInt := Int.mul_nonneg (Int.ediv_nonneg h (Int.le_of_lt hb)) (Int.le_of_lt hb)
  have e2 : b.toInt * (a.toInt / b.toInt) + a.toInt % b.toInt = a.toInt := Int.mul_ediv_add_emod _ _
  have e3 : 0 ≤ a.toInt % b.toInt := Int.emod_nonneg _ (by omega)
  have e4 : b.toInt * (a.toInt / b.toInt) = a.toInt / b.toInt * b.toInt := Int.mul_comm _ _
  rw [i_sub, i_mul, i_divp a b h hb]
  generalize a.toInt / b.toInt * b.toInt = x at *
  generalize a.toInt % b.toInt = y at *
  omega
def paneOk (k w r : Int32) : Bool := rg 6 k && decide (0 ≤ w.toInt ∧ w.toInt ≤ 918 ∧ w.toInt % 100 ≤ 18) && decide (0 ≤ r.toInt ∧ r.toInt ≤ 55 ∧ r.toInt % 10 ≤ 5)
theorem paneOk_iff {k w r : Int32} : paneOk k w r = true ↔ rg 6 k = true ∧ (0 ≤ w.toInt ∧ w.toInt ≤ 918 ∧ w.toInt % 100 ≤ 18) ∧ (0 ≤ r.toInt ∧ r.toInt ≤ 55 ∧ r.toInt % 10 ≤ 5) := by simp [paneOk, and_assoc]
def paneC (C : wg_C) (n : Nat) (k w r : Int32) : wg_C := wg_up (wg_up (wg_up (wg_up (wg_up (wg_up C (4 + n) 1 k) (4 + n) 2 (w / 100)) (4 + n) 3 (w - w / 100 * 100 - 9)) (4 + n) 4 (r / 10)) (4 + n) 5 (r - r / 10 * 10)) 1 2 (Int32.ofNat (n + 1))
def paneM (M : wg_M) (n : Nat) (k w r : Int32) : wg_M := wg_sM (wg_sM (wg_sM (wg_sM (wg_sM (wg_sM M 60 n k) 61 n (w / 100)) 62 n (w - w / 100 * 100 - 9)) 63 n (r / 10)) 64 n (r - r / 10 * 10)) 55 13 (Int32.ofNat (n + 1))
theorem pane_num {w : Int32} (h : 0 ≤ w.toInt) : (w / 100).toInt = w.toInt / 100 ∧ (w - w / 100 * 100 - 9).toInt = w.toInt % 100 - 9 ∧ (w - w / 100 * 100).toInt = w.toInt % 100 := by
  have e1 := i_divp w 100 h (by decide)
  have e2 := i_rem w 100 h (by decide)
  rw [show (100 : Int32).toInt = 100 from rfl] at e1 e2
  refine ⟨e1, ?_, e2⟩
  rw [i_sub, e2, show (9 : Int32).toInt = 9 from rfl]
  omega
theorem pane_rm {r : Int32} (h : 0 ≤ r.toInt) : (r / 10).toInt = r.toInt / 10 ∧ (r - r / 10 * 10).toInt = r.toInt % 10 := by
  have e1 := i_divp r 10 h (by decide)
  have e2 := i_rem r 10 h (by decide)
  rw [show (10 : Int32).toInt = 10 from rfl] at e1 e2
  exact ⟨e1, e2⟩
theorem s8_pane {np : Nat} {C : wg_C} {M : wg_M} (h : IHo np C M) (k w r : Int32) : f_X8_pane C k w r = some (if paneOk k w r = true then if np < 8 then (Int32.ofNat np, paneC C np k w r) else (-4, C) else (-2, C)) := by
  obtain ⟨h1, h2, h3, h4, h5, h6⟩ := h
  have hn := oN_eq h2
  unfold f_X8_pane
  simp only [lt_eq, s8_isKind, s8_fits, s8_isRoom, bd_eq, if_bI]
  have l0 : ∀ x : Int32, x < 0 ↔ x.toInt < 0 := fun x => by rw [i_lt]; rfl
  simp only [l0, show ∀ x, fitV 1 x = rg 10 x from fun _ => rfl, show ∀ x : Int32, fitV 2 x = decide (-9 ≤ x.toInt ∧ x.toInt ≤ 9) from fun _ => rfl, decide_eq_true_eq, rg_iff 10, rg_iff 6]
  have hq : paneOk k w r = true ↔ (0 ≤ k.toInt ∧ k.toInt < 6) ∧ (0 ≤ w.toInt ∧ w.toInt ≤ 918 ∧ w.toInt % 100 ≤ 18) ∧ (0 ≤ r.toInt ∧ r.toInt ≤ 55 ∧ r.toInt % 10 ≤ 5) := by rw [paneOk_iff, rg_iff 6]; rfl
  rw [show ((if paneOk k w r = true then if np < 8 then (Int32.ofNat np, paneC C np k w r) else (-4, C) else (-2, C)) : Int32 × wg_C) = if (0 ≤ k.toInt ∧ k.toInt < 6) ∧ (0 ≤ w.toInt ∧ w.toInt ≤ 918 ∧ w.toInt % 100 ≤ 18) ∧ (0 ≤ r.toInt ∧ r.toInt ≤ 55 ∧ r.toInt % 10 ≤ 5) then if np < 8 then (Int32.ofNat np, paneC C np k w r) else (-4, C) else (-2, C) by simp only [hq]]
  by_cases g1 : 0 ≤ k.toInt ∧ k.toInt < 6
  · rw [if_pos (by exact g1)]
    by_cases g2 : w.toInt < 0
    · rw [if_pos g2, if_neg (by omega)]
    · obtain ⟨w1, w2, w3⟩ := pane_num (w := w) (by omega)
      rw [if_neg g2, w1, w2]
      by_cases g3 : r.toInt < 0
      · rw [if_pos g3]
        rw [if_neg (c := (0 ≤ k.toInt ∧ k.toInt < 6) ∧ _) (by omega)]
        repeat' split
        all_goals rfl
      · obtain ⟨r1, r2⟩ := pane_rm (r := r) (by omega)
        rw [if_neg g3, r1, r2]
        have e1 : C 1 2 < 8 ↔ np < 8 := by
          rw [i_lt, h2]
          show (np : Int) < 8 ↔ _
          omega
        by_cases g4 : (0 ≤ k.toInt ∧ k.toInt < 6) ∧ (0 ≤ w.toInt ∧ w.toInt ≤ 918 ∧ w.toInt % 100 ≤ 18) ∧ (0 ≤ r.toInt ∧ r.toInt ≤ 55 ∧ r.toInt % 10 ≤ 5)
        · rw [if_pos (by omega), if_pos (by omega), if_pos (by omega), if_pos (by omega), if_pos g4]
          by_cases g5 : np < 8
          · rw [if_pos (e1.mpr g5), if_pos g5, hn, ck_pos (oN_inb g5 (by omega)), oN_cl (by omega)]
            simp only [up_r _ _ _ _ (show 1 ≠ 4 + np by omega), up_r _ _ _ _ (show 4 + np ≠ 1 by omega), up_k _ _ (show 0 ≠ 1 by decide), up_k _ _ (show 0 ≠ 2 by decide), up_k _ _ (show 0 ≠ 3 by decide), up_k _ _ (show 0 ≠ 4 by decide), up_k _ _ (show 0 ≠ 5 by decide), hn, oN_s, oN_eq (h5 np g5)]
            rfl
          · rw [if_neg (fun e => g5 (e1.mp e)), if_neg g5]
        · rw [if_neg g4]
          repeat' split
          all_goals first | rfl | (exfalso; omega)
  · rw [if_neg (by exact g1), if_neg (fun e => g1 e.1)]
theorem s9_pane {np : Nat} {C : wg_C} {M : wg_M} (h : IHo np C M) (k w r : Int32) : f_X9_pane M k w r = some (if paneOk k w r = true then if np < 8 then (Int32.ofNat np, paneM M np k w r) else (-4, M) else (-2, M)) := by
  obtain ⟨h1, h2, h3, h4, h5, h6⟩ := h
  have hn := oN_eq h2
  unfold f_X9_pane
  simp only [lt_eq, s_inr k 5 6 rfl, s_inl w 0 918 0 918 rfl rfl, s_inl r 0 55 0 55 rfl rfl, s9_isRoom, bd_eq, if_bI]
  have l0 : ∀ x : Int32, 18 < x ↔ 18 < x.toInt := fun x => by rw [i_lt]; rfl
  simp only [l0, rg_iff 6]
  have hq : paneOk k w r = true ↔ (0 ≤ k.toInt ∧ k.toInt < 6) ∧ (0 ≤ w.toInt ∧ w.toInt ≤ 918 ∧ w.toInt % 100 ≤ 18) ∧ (0 ≤ r.toInt ∧ r.toInt ≤ 55 ∧ r.toInt % 10 ≤ 5) := by rw [paneOk_iff, rg_iff 6]; rfl
  rw [show ((if paneOk k w r = true then if np < 8 then (Int32.ofNat np, paneM M np k w r) else (-4, M) else (-2, M)) : Int32 × wg_M) = if (0 ≤ k.toInt ∧ k.toInt < 6) ∧ (0 ≤ w.toInt ∧ w.toInt ≤ 918 ∧ w.toInt % 100 ≤ 18) ∧ (0 ≤ r.toInt ∧ r.toInt ≤ 55 ∧ r.toInt % 10 ≤ 5) then if np < 8 then (Int32.ofNat np, paneM M np k w r) else (-4, M) else (-2, M) by simp only [hq]]
  by_cases g1 : 0 ≤ k.toInt ∧ k.toInt < 6
  · rw [if_pos (by exact g1)]
    by_cases g2 : 0 ≤ w.toInt ∧ w.toInt ≤ 918
    · obtain ⟨w1, w2, w3⟩ := pane_num (w := w) (by omega)
      rw [if_pos g2, w3]
      by_cases g3 : 0 ≤ r.toInt ∧ r.toInt ≤ 55
      · obtain ⟨r1, r2⟩ := pane_rm (r := r) (by omega)
        rw [if_pos g3, r2]
        have e1 : M.1 55 13 = 8 ↔ ¬ np < 8 := by
          rw [i_eq, h3, h2]
          show (np : Int) = 8 ↔ _
          omega
        by_cases g4 : (0 ≤ k.toInt ∧ k.toInt < 6) ∧ (0 ≤ w.toInt ∧ w.toInt ≤ 918 ∧ w.toInt % 100 ≤ 18) ∧ (0 ≤ r.toInt ∧ r.toInt ≤ 55 ∧ r.toInt % 10 ≤ 5)
        · rw [if_neg (c := 18 < w.toInt % 100) (by omega), if_pos (by omega), if_pos g4]
          by_cases g5 : np < 8
          · rw [if_neg (fun e => e1.mp e g5), if_pos g5]
            simp only [sM_r _ _ _ _ (show 55 ≠ 60 by decide), sM_r _ _ _ _ (show 55 ≠ 61 by decide), sM_r _ _ _ _ (show 55 ≠ 62 by decide), sM_r _ _ _ _ (show 55 ≠ 63 by decide), sM_r _ _ _ _ (show 55 ≠ 64 by decide), h3, hn, ck_pos (oN_inb g5 (show 8 < 2147483648 by omega)), oN_cl (show np < 2147483648 by omega), oN_s, sM_s]
            rw [show Int32.ofNat (np + 1) - 1 = Int32.ofNat np by rw [← oN_s]; exact Int32.add_sub_cancel _ _]
            rfl
          · rw [if_pos (e1.mpr g5), if_neg g5]
        · rw [if_neg g4]
          repeat' split
          all_goals first | rfl | (exfalso; omega)
      · rw [if_neg g3]
        rw [if_neg (c := (0 ≤ k.toInt ∧ k.toInt < 6) ∧ _) (by omega)]
        split <;> rfl
    · rw [if_neg g2, if_neg (by omega)]
  · rw [if_neg (by exact g1), if_neg (fun e => g1 e.1)]
