theorem s9_under (N : Nat) (M : wg_M) (p : Int32) {k a : Int32} (hk : rg 6 k = true) (ha : rg 6 a = true) : ∃ x, lp (fun o => f_X9_taken_l33 (8 + N) M p a o) (8 + N) k = some x ∧ (x = a ↔ upK k a = true) := by
  revert ha
  refine k_all (P := fun k => rg 6 a = true → ∃ x, lp (fun o => f_X9_taken_l33 (8 + N) M p a o) (8 + N) k = some x ∧ (x = a ↔ upK k a = true)) ?_ ?_ ?_ ?_ ?_ ?_ hk <;> intro ha
  all_goals
    refine k_all (P := fun a => ∃ x, lp (fun o => f_X9_taken_l33 (8 + N) M p a o) (8 + N) _ = some x ∧ (x = a ↔ upK _ a = true)) ?_ ?_ ?_ ?_ ?_ ?_ ha
    all_goals
      first
        | exact ⟨-1, lpN 8 (by rfl) N, by decide⟩
        | exact ⟨0, lpN 8 (by rfl) N, by decide⟩
        | exact ⟨1, lpN 8 (by rfl) N, by decide⟩
        | exact ⟨2, lpN 8 (by rfl) N, by decide⟩
        | exact ⟨3, lpN 8 (by rfl) N, by decide⟩
        | exact ⟨4, lpN 8 (by rfl) N, by decide⟩
        | exact ⟨5, lpN 8 (by rfl) N, by decide⟩
theorem h_taken : H_taken wInv := by
  intro S C M h hw p a
  obtain ⟨hs, np, nt, h1, h2, h3, h4, h5, h6, h7⟩ := id h
  obtain ⟨N, hN⟩ := NN_split 8 (by omega)
  refine ⟨if rg 6 a = true then if rg np p = true then if upK (C (4 + p.toNatClampNeg) 1) a = true then C (4 + p.toNatClampNeg) 2 else -13 else -11 else -2, ?_, ?_, trivial⟩
  · unfold f_X8_taken
    simp only [s8_isKind, p8_has h1, bd_eq, if_bI]
    by_cases ha : rg 6 a = true
    · by_cases hp : rg np p = true
      · have k := h1.2.2.2.2.2 _ (cl_lt hp)
        simp only [ha, hp, if_true, ck_pos (h1.in8 hp)]
        rw [hN, s8_under N C ((rg_iff 6 _).mpr (by have := k.2.2.2.2.2.1; omega)) ha]
        simp only [bd_eq, if_bI]
        split <;> rfl
      · simp only [ha, hp, if_true]; rfl
    · simp only [ha]; rfl
  · unfold f_X9_taken
    simp only [s_inr a 5 6 rfl, p9_isPane h1, bd_eq, if_bI]
    by_cases ha : rg 6 a = true
    · by_cases hp : rg np p = true
      · have k := h1.2.2.2.2.2 _ (cl_lt hp)
        obtain ⟨x, e1, e2⟩ := s9_under N M p (k := C (4 + p.toNatClampNeg) 1) ((rg_iff 6 _).mpr (by have := k.2.2.2.2.2.1; omega)) ha
        simp only [ha, hp, if_true, ck_pos (h1.in8 hp), lt_eq, k.1, k.2.1]
        rw [hN, e1]
        simp only [bd_eq, e2]
        split <;> rfl
      · simp only [ha, hp, if_true]; rfl
    · simp only [ha]; rfl
theorem up_s (f : Nat → Nat → Int32) (a k : Nat) (v : Int32) : wg_up f a k v a k = v := by simp [wg_up]
theorem up_r (f : Nat → Nat → Int32) {a b : Nat} (k j : Nat) (v : Int32) (h : b ≠ a) : wg_up f a k v b j = f b j := by simp [wg_up, h]
theorem up_k (f : Nat → Nat → Int32) {a b k j : Nat} (v : Int32) (h : j ≠ k) : wg_up f a k v b j = f b j := by simp [wg_up, h]
theorem sM_1 (M : wg_M) (a k : Nat) (v : Int32) : (wg_sM M a k v).1 = wg_up M.1 a k v := rfl
theorem sM_s (M : wg_M) (a k : Nat) (v : Int32) : (wg_sM M a k v).1 a k = v := up_s _ _ _ _
theorem sM_r (M : wg_M) {a b : Nat} (k j : Nat) (v : Int32) (h : b ≠ a) : (wg_sM M a k v).1 b j = M.1 b j := up_r _ _ _ _ h
theorem sM_k (M : wg_M) {a b k j : Nat} (v : Int32) (h : j ≠ k) : (wg_sM M a k v).1 b j = M.1 b j := up_k _ _ h
theorem h_force : H_force wInv := by
  intro S C M h hw t
  obtain ⟨hs, np, nt, h1, h2, h3, h4, h5, h6, h7⟩ := id h
  have e8 : f_X8_force C t = some (if rg nt t = true then (C 1 3, wg_up C 1 3 t) else (-2, C)) := by
    unfold f_X8_force
    have q := rg_iff nt t
    simp only [i_lt, h7.2.1, lt_eq, Int32.toInt_zero]
    by_cases ht : rg nt t = true
    · have := q.mp ht
      rw [if_neg (by omega), if_pos (by omega), if_pos ht]
    · rw [if_neg ht]
      have : ¬ (0 ≤ t.toInt ∧ t.toInt < nt) := fun e => ht (q.mpr e)
      by_cases g : t.toInt < 0
      · rw [if_pos g]
      · rw [if_neg g, if_neg (by omega)]
  have e9 : f_X9_force M t = some (if rg nt t = true then (C 1 3, wg_sM M 55 4 t) else (-2, M)) := by
    unfold f_X9_force
    rw [s_inr t _ nt (by rw [Int32.toInt_toInt64, i_sub, h7.2.2.1, h7.2.1]; have := h7.1; simp only [Int32.toInt_one]; omega)]
    simp only [bd_eq, if_bI, lt_eq, h3.1]
    split <;> rfl
  rw [e8, e9]
  by_cases ht : rg nt t = true
  · simp only [ht, if_true]
    refine ⟨_, _, _, rfl, rfl, hs, np, nt, ?_, ?_, ?_, ?_, ?_, ?_, ?_⟩
    · obtain ⟨q1, q2, q3, q4, q5, q6⟩ := h1
      refine ⟨q1, ?_, ?_, ?_, ?_, ?_⟩
      · rw [up_k _ _ (by decide)]; exact q2
      · rw [sM_1, up_k _ _ (by decide), up_k _ _ (by decide)]; exact q3
      · intro d hd
        unfold IS
        rw [sM_1, up_r _ _ _ _ (by decide), up_r _ _ _ _ (by decide)]; exact q4 d hd
      · intro p hp
        rw [up_r _ _ _ _ (by omega)]; exact q5 p hp
      · intro p hp
        unfold IP
        simp only [sM_1, up_r _ _ _ _ (show 4 + p ≠ 1 by omega), up_r _ _ _ _ (show 60 ≠ 55 by decide), up_r _ _ _ _ (show 61 ≠ 55 by decide), up_r _ _ _ _ (show 62 ≠ 55 by decide), up_r _ _ _ _ (show 63 ≠ 55 by decide), up_r _ _ _ _ (show 64 ≠ 55 by decide)]
        exact q6 p hp
    · exact h2.keep h1.1 (up_r _ _ _ _ (by decide)) (fun a k q q' => up_r _ _ _ _ (by omega)) (fun p q => sM_r _ _ _ _ (by decide)) (fun a k q q' => sM_r _ _ _ _ (by omega)) (sM_k _ _ (by decide)) (sM_k _ _ (by decide))
    · refine ⟨?_, ?_⟩
      · rw [sM_1, up_s, up_s]
      · rw [up_s]; exact (rg_iff nt t).mp ht
    · exact h4.keep (up_r _ _ _ _ (by decide)) (fun k => up_r _ _ _ _ (by decide)) (sM_k _ _ (by decide)) (fun k => sM_r _ _ _ _ (by decide))
    · intro s q
      exact (h5 s q).keep (fun k => up_r _ _ _ _ (by omega)) (fun k => up_r _ _ _ _ (by omega)) (sM_r _ _ _ _ (by decide)) (sM_r _ _ _ _ (by decide)) (sM_r _ _ _ _ (by decide)) (fun i _ => sM_r _ _ _ _ (by decide))
    · rw [sM_1, up_k _ _ (by decide)]; exact h6
    · exact h7.keep (up_r _ _ _ _ (by decide)) (fun a k q => up_r _ _ _ _ (by omega)) (sM_k _ _ (by decide)) (fun k => sM_r _ _ _ _ (by decide)) (fun k => sM_r _ _ _ _ (by decide))
  · simp only [ht, if_false]
    exact ⟨_, _, _, rfl, rfl, h⟩
