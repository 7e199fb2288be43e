theorem s9_zero (M : wg_M) (s o n : Int32) (m : Nat) (hs : rg 4 s = true) (ho : ¬ o < 0) (hm : m ≤ 40) (hn : n = Int32.ofNat m) : lp (fun x => f_X9_sheet_l77 NN s o n x.1 x.2) NN (M, (0 : Int32)) = some (rowM M 74 (40 * s.toNatClampNeg) m (fun _ => 0), Int32.ofNat m) := by
  subst hn
  have := lp_to (b := fun x => f_X9_sheet_l77 NN s o (Int32.ofNat m) x.1 x.2) (fun k => (rowM M 74 (40 * s.toNatClampNeg) k (fun _ => 0), Int32.ofNat k)) m (rowM M 74 (40 * s.toNatClampNeg) m (fun _ => 0), Int32.ofNat m) (fun k hk => by
    obtain ⟨e1, e2⟩ := p40 (n := 40) hs (oN_rg (show k < 40 by omega) (by omega)) (Nat.le_refl _)
    simp only [f_X9_sheet_l77, oN_le (show k < 2147483648 by omega) (show m < 2147483648 by omega), Nat.not_le.mpr hk, if_false, ho, ck_pos e1, lt_eq, e2, oN_cl (show k < 2147483648 by omega), oN_s]
    rw [← rowM_s]) (by
    simp only [f_X9_sheet_l77]
    rw [if_pos ((oN_le (by omega) (by omega)).mpr (Nat.le_refl _))]) NN (by have := NN_big; omega)
  rw [rowM_0] at this
  exact this
theorem s9_zero0 (M : wg_M) (s o n : Int32) (ho : o < 0) : lp (fun x => f_X9_sheet_l77 NN s o n x.1 x.2) NN (M, (0 : Int32)) = some (M, 0) := by
  refine lp_to (fun _ => (M, (0 : Int32))) 0 (M, 0) (fun k hk => absurd hk (Nat.not_lt_zero _)) ?_ NN (by have := NN_big; omega)
  simp only [f_X9_sheet_l77, ho, if_true]
  split <;> rfl
def sheetC (C : wg_C) (s : Nat) (o n : Int32) : wg_C := wg_up (wg_up (rowC C (44 + 2 * s + 1) 0 40 (fun _ => 0)) (44 + 2 * s) 1 o) (44 + 2 * s) 2 n
def sheetM (M : wg_M) (s : Nat) (o n : Int32) : wg_M := if o < 0 then wg_sM (wg_sM (wg_sM M 71 s 0) 72 s o) 73 s n else rowM (wg_sM (wg_sM (wg_sM M 71 s 1) 72 s o) 73 s n) 74 (40 * s) n.toNatClampNeg (fun _ => 0)
theorem wInv.sheet {S : wg_Sh} {C : wg_C} {M : wg_M} (h : wInv S C M) {s : Nat} (h4 : s < 4) {o n : Int32} (ho : rg 3 o = true) (hn : rg 41 n = true) : wInv S (sheetC C s o n) (sheetM M s o n) := by
  rw [rg_iff] at ho hn
  have o0 : ¬ o < 0 := by rw [i_lt, Int32.toInt_zero]; omega
  have hcl : n.toNatClampNeg ≤ 40 := by rw [i_cl]; omega
  unfold sheetM
  rw [if_neg o0]
  refine h.sh h4 (fun a k q q' => ?_) (fun a k q => ?_) (Or.inr ⟨n.toNatClampNeg, hcl, ?_, ?_, ?_, ?_, ?_, ?_⟩)
  · unfold sheetC
    rw [up_r _ _ _ _ q, up_r _ _ _ _ q, rowC_ne (by omega)]
  · rw [rowM_1]
    by_cases e : a = 74
    · rw [rowC_out (by omega), sM_r _ _ _ _ (by omega), sM_r _ _ _ _ (by omega), sM_r _ _ _ _ (by omega)]
    · rw [rowC_ne e]
      by_cases e2 : k = s
      · rw [sM_r _ _ _ _ (by omega), sM_r _ _ _ _ (by omega), sM_r _ _ _ _ (by omega)]
      · rw [sM_k _ _ e2, sM_k _ _ e2, sM_k _ _ e2]
  · unfold sheetC
    rw [up_k _ _ (by decide), up_s]
    omega
  · unfold sheetC
    rw [up_s, i_cl]
    omega
  · rw [rowM_1, rowC_ne (by decide), sM_r _ _ _ _ (by decide), sM_r _ _ _ _ (by decide), sM_s]
  · unfold sheetC
    rw [rowM_1, rowC_ne (by decide), sM_r _ _ _ _ (by decide), sM_s, up_k _ _ (by decide), up_s]
  · unfold sheetC
    rw [rowM_1, rowC_ne (by decide), sM_s, up_s]
  · intro i hi
    unfold sheetC
    rw [rowM_1, rowC_in (by omega) (by omega), up_r _ _ _ _ (by omega), up_r _ _ _ _ (by omega), show 45 + 2 * s = 44 + 2 * s + 1 by omega, rowC_in (by omega) (by omega)]
theorem wInv.sheet0 {S : wg_Sh} {C : wg_C} {M : wg_M} (h : wInv S C M) {s : Nat} (h4 : s < 4) (n : Int32) : wInv S (sheetC C s (-1) 0) (sheetM M s (-1) n) := by
  unfold sheetM
  rw [if_pos (by decide)]
  refine h.sh h4 (fun a k q q' => ?_) (fun a k q => ?_) (Or.inl ⟨?_, ?_⟩)
  · unfold sheetC
    rw [up_r _ _ _ _ q, up_r _ _ _ _ q, rowC_ne (by omega)]
  · by_cases e : a = 74
    · rw [sM_r _ _ _ _ (by omega), sM_r _ _ _ _ (by omega), sM_r _ _ _ _ (by omega)]
    · by_cases e2 : k = s
      · rw [sM_r _ _ _ _ (by omega), sM_r _ _ _ _ (by omega), sM_r _ _ _ _ (by omega)]
      · rw [sM_k _ _ e2, sM_k _ _ e2, sM_k _ _ e2]
  · unfold sheetC
    rw [up_k _ _ (by decide), up_s]
  · rw [sM_r _ _ _ _ (by decide), sM_r _ _ _ _ (by decide), sM_s]
