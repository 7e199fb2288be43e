/-- only sheet s has changed -/
theorem wInv.sh {S : wg_Sh} {C D : wg_C} {M L : wg_M} (h : wInv S C M) {s : Nat} (h4 : s < 4) (hC : ∀ a k, a ≠ 44 + 2 * s → a ≠ 45 + 2 * s → D a k = C a k) (hM : ∀ a k, (a < 71 ∨ 74 < a) ∨ (a < 74 ∧ k ≠ s) ∨ (a = 74 ∧ (k < 40 * s ∨ 40 * s + 40 ≤ k)) → L.1 a k = M.1 a k) (hn : ISh D L s) : wInv S D L := by
  obtain ⟨hs, np, nt, h1, h2, h3, hT, h5, h6, h7⟩ := h
  refine ⟨hs, np, nt, ?_, ?_, ?_, ?_, ?_, ?_, ?_⟩
  · exact h1.keep (fun a k q => hC a k (by omega) (by omega)) (fun a k q q' => hM a k (by omega)) (hM 55 13 (by omega))
  · exact h2.keep h1.1 (hC 0 2 (by omega) (by omega)) (fun a k q q' => hC a k (by omega) (by omega)) (fun p q => hM 60 p (by omega)) (fun a k q q' => hM a k (by omega)) (hM 55 38 (by omega)) (hM 55 39 (by omega))
  · exact h3.keep (hC 1 3 (by omega) (by omega)) (hM 55 4 (by omega))
  · exact hT.keep (hC 23 1 (by omega) (by omega)) (fun k => hC 24 k (by omega) (by omega)) (hM 55 6 (by omega)) (fun k => hM 58 k (by omega))
  · intro t ht
    by_cases e : t = s
    · subst e; exact hn
    · exact (h5 t ht).keep (fun k => hC _ k (by omega) (by omega)) (fun k => hC _ k (by omega) (by omega)) (hM 71 t (by omega)) (hM 72 t (by omega)) (hM 73 t (by omega)) (fun i _ => hM 74 _ (by omega))
  · rw [hM 55 14 (by omega)]
    exact h6
  · exact h7.keep (hC 31 1 (by omega) (by omega)) (fun a k q => hC a k (by omega) (by omega)) (hM 55 3 (by omega)) (fun k => hM 56 k (by omega)) (fun k => hM 57 k (by omega))
/-- what a row of a sort keeps of a number -/
def narV (o v : Int32) : Int32 := if o = 0 then v.toInt8.toInt32 else if o = 1 then v.toInt16.toInt32 else v
theorem s8_missing (C : wg_C) (q : Nat) : f_X4_isMissing C q = some (bI (C q 1 = -1)) := by
  unfold f_X4_isMissing bI
  split <;> rfl
theorem s8_shas (C : wg_C) (q n : Nat) (h : (C q 2).toInt = n) (i : Int32) : f_X4_has C q i = some (bI (rg n i = true)) := by
  rw [← bI_rg]
  unfold f_X4_has bI
  simp only [i_lt, i_le, h]
  repeat' split
  all_goals first | rfl | (exfalso; simp at *; omega)
theorem s8_put (C : wg_C) (q : Nat) (i v : Int32) (hi : inb i 40) : f_X4_put C q i v = some (wg_up C (q + 1) i.toNatClampNeg (narV (C q 1) v)) := by
  unfold f_X4_put narV
  simp only [ck_pos hi, lt_eq]
  repeat' split
  all_goals first | rfl | (simp_all; done)
theorem p40 {s i : Int32} {n : Nat} (hs : rg 4 s = true) (hi : rg n i = true) (hn : n ≤ 40) : inb (40 * s + i) 160 ∧ (40 * s + i).toNatClampNeg = 40 * s.toNatClampNeg + i.toNatClampNeg := by
  rw [rg_iff] at hs hi
  have e : (40 * s + i).toInt = 40 * s.toInt + i.toInt := by
    rw [i_add, i_mul, show (40 : Int32).toInt = 40 from rfl]
    omega
  rw [i_inb, i_cl, i_cl, i_cl, e]
  omega
theorem ISh.no {C : wg_C} {M : wg_M} {s : Nat} (h : ISh C M s) : M.1 71 s = 0 ↔ C (44 + 2 * s) 1 = -1 := by
  rcases h with ⟨h1, h2⟩ | ⟨n, _, h1, _, h2, _⟩
  · simp [h1, h2]
  · rw [h2, i_eq (C _ _), show (-1 : Int32).toInt = -1 from rfl]
    constructor
    · intro e; exact absurd e (by decide)
    · intro e; omega
theorem ISh.yes {C : wg_C} {M : wg_M} {s : Nat} (h : ISh C M s) (hn : ¬ C (44 + 2 * s) 1 = -1) : IShb C M s := h.resolve_left fun e => hn e.1
theorem h_cell : H_cell wInv := by
  intro S C M h hw s i v
  obtain ⟨hs, np, nt, h1, h2, h3, h4, h5, h6, h7⟩ := id h
  unfold f_X8_cell f_X9_cell
  simp only [s8_isSheet, s9_isSheet, bd_eq, if_bI]
  by_cases g1 : rg 4 s = true
  · have hi4 := inb_of g1 (Nat.le_refl _)
    have hl := cl_lt g1
    have hq := h5 _ hl
    simp only [g1, if_true, ck_pos hi4, s8_missing, bd_eq, if_bI, hq.no]
    by_cases g2 : C (44 + 2 * s.toNatClampNeg) 1 = -1
    · simp only [g2, if_true]
      exact ⟨_, _, _, rfl, rfl, h⟩
    · obtain ⟨n, n1, n2, n3, n4, n5, n6, n7⟩ := hq.yes g2
      simp only [g2, if_false, s8_shas C _ n n3, bd_eq, if_bI, n6]
      rw [s_inr i _ n (by rw [Int32.toInt_toInt64, i_sub, n3]; simp only [Int32.toInt_one]; omega)]
      simp only [bd_eq, if_bI]
      by_cases g3 : rg n i = true
      · obtain ⟨e1, e2⟩ := p40 g1 g3 n1
        simp only [g3, if_true, s8_put C _ i v (inb_of g3 n1), bd_eq, ck_pos e1, lt_eq, n5, e2]
        have hr : (if C (44 + 2 * s.toNatClampNeg) 1 = 0 then (some (1, wg_sM M 74 (40 * s.toNatClampNeg + i.toNatClampNeg) v.toInt8.toInt32) : Option (Int32 × wg_M)) else if C (44 + 2 * s.toNatClampNeg) 1 = 1 then some (1, wg_sM M 74 (40 * s.toNatClampNeg + i.toNatClampNeg) v.toInt16.toInt32) else some (1, wg_sM M 74 (40 * s.toNatClampNeg + i.toNatClampNeg) v)) = some (1, wg_sM M 74 (40 * s.toNatClampNeg + i.toNatClampNeg) (narV (C (44 + 2 * s.toNatClampNeg) 1) v)) := by
          unfold narV
          repeat' split
          all_goals rfl
        rw [hr]
        refine ⟨_, _, _, rfl, rfl, ?_⟩
        have hil := cl_lt g3
        refine h.sh hl (fun a k q q' => up_r _ _ _ _ (by omega)) (fun a k q => ?_) ?_
        · by_cases e : a = 74
          · exact sM_k _ _ (by omega)
          · exact sM_r _ _ _ _ e
        · refine Or.inr ⟨n, n1, ?_, ?_, ?_, ?_, ?_, ?_⟩
          · rw [up_r _ _ _ _ (by omega)]; exact n2
          · rw [up_r _ _ _ _ (by omega)]; exact n3
          · rw [sM_r _ _ _ _ (by decide)]; exact n4
          · rw [sM_r _ _ _ _ (by decide), up_r _ _ _ _ (by omega)]; exact n5
          · rw [sM_r _ _ _ _ (by decide), up_r _ _ _ _ (by omega)]; exact n6
          · intro j hj
            rw [show 45 + 2 * s.toNatClampNeg = 44 + 2 * s.toNatClampNeg + 1 by omega]
            by_cases e : j = i.toNatClampNeg
            · rw [e, up_s, sM_s]
            · rw [up_k _ _ e, sM_k _ _ (by omega)]
              have := n7 j hj
              rw [show 45 + 2 * s.toNatClampNeg = 44 + 2 * s.toNatClampNeg + 1 by omega] at this
              exact this
      · simp only [g3, if_false]
        exact ⟨_, _, _, rfl, rfl, h⟩
  · simp only [g1, if_false]
    exact ⟨_, _, _, rfl, rfl, h⟩
