theorem h_feed : H_feed wInv := by
  intro S C M h hw b
  obtain ⟨hs, np, nt, h1, h2, h3, h4, h5, h6, h7⟩ := id h
  obtain ⟨n, n1, n2, n3, n4⟩ := id h4
  have hn := oN_eq n2
  have e8 : f_X8_feed C b = some (if rg 256 b = true then if n < 160 then (Int32.ofNat (n + 1), wg_up (wg_up C 24 n b) 23 1 (Int32.ofNat (n + 1))) else (-4, C) else (-2, C)) := by
    unfold f_X8_feed f_X5_put
    have q := rg_iff 256 b
    have e1 : Int32.ofNat n < 160 ↔ n < 160 := by
      rw [i_lt, oN_t (by omega)]
      show (n : Int) < 160 ↔ _
      omega
    have e2 : (if b < 0 then (some (-2, C) : Option (Int32 × wg_C)) else if b ≤ 255 then some (if n < 160 then (Int32.ofNat (n + 1), wg_up (wg_up C 24 n b) 23 1 (Int32.ofNat (n + 1))) else (-4, C)) else some (-2, C)) = some (if rg 256 b = true then if n < 160 then (Int32.ofNat (n + 1), wg_up (wg_up C 24 n b) 23 1 (Int32.ofNat (n + 1))) else (-4, C) else (-2, C)) := by
      simp only [i_lt, i_le, Int32.toInt_zero, show (255 : Int32).toInt = 255 from rfl]
      by_cases hb : rg 256 b = true
      · have := q.mp hb
        rw [if_neg (by omega), if_pos (by omega), if_pos hb]
      · rw [if_neg hb]
        have : ¬ (0 ≤ b.toInt ∧ b.toInt < 256) := fun e => hb (q.mpr e)
        by_cases g : b.toInt < 0
        · rw [if_pos g]
        · rw [if_neg g, if_neg (by omega)]
    rw [← e2]
    by_cases hl : n < 160
    · simp only [e1, hl, if_true, lt_eq, hn, ck_pos (oN_inb hl (by omega)), oN_cl (show n < 2147483648 by omega), up_r _ _ _ _ (show 23 ≠ 24 by decide), bd2_eq, oN_s, show ¬ (1 : Int32) = 0 by decide, if_false, up_s]
    · simp only [hn, e1, hl, if_false, bd2_eq, if_true]
  have e9 : f_X9_feed M b = some (if rg 256 b = true then if n < 160 then (Int32.ofNat (n + 1), wg_sM (wg_sM M 58 n b) 55 6 (Int32.ofNat (n + 1))) else (-4, M) else (-2, M)) := by
    unfold f_X9_feed
    rw [s_inr b 255 256 rfl]
    have e1 : C 23 1 = 160 ↔ ¬ n < 160 := by
      rw [i_eq, n2]
      show (n : Int) = 160 ↔ _
      omega
    simp only [bd_eq, if_bI, n3, e1]
    by_cases hl : n < 160
    · simp only [hl, not_true, if_true, if_false, lt_eq, hn, ck_pos (oN_inb hl (by omega)), oN_cl (show n < 2147483648 by omega), sM_r _ _ _ _ (show 55 ≠ 58 by decide), n3, oN_s, sM_s]
      split <;> rfl
    · simp only [hl, not_false_eq_true, if_true, if_false]
      split <;> rfl
  rw [e8, e9]
  by_cases hb : rg 256 b = true
  · by_cases hl : n < 160
    · simp only [hb, hl, if_true]
      refine ⟨_, _, _, rfl, rfl, hs, np, nt, ?_, ?_, ?_, ?_, ?_, ?_, ?_⟩
      · exact h1.keep (fun a k q => by rw [up_r _ _ _ _ (by omega), up_r _ _ _ _ (by omega)]) (fun a k q q' => by rw [sM_r _ _ _ _ (by omega), sM_r _ _ _ _ (by omega)]) (by rw [sM_k _ _ (by decide), sM_r _ _ _ _ (by decide)])
      · exact h2.keep h1.1 (by rw [up_r _ _ _ _ (by omega), up_r _ _ _ _ (by omega)]) (fun a k q q' => by rw [up_r _ _ _ _ (by omega), up_r _ _ _ _ (by omega)]) (fun p q => by rw [sM_r _ _ _ _ (by omega), sM_r _ _ _ _ (by omega)]) (fun a k q q' => by rw [sM_r _ _ _ _ (by omega), sM_r _ _ _ _ (by omega)]) (by rw [sM_k _ _ (by decide), sM_r _ _ _ _ (by decide)]) (by rw [sM_k _ _ (by decide), sM_r _ _ _ _ (by decide)])
      · exact h3.keep (by rw [up_r _ _ _ _ (by omega), up_r _ _ _ _ (by omega)]) (by rw [sM_k _ _ (by decide), sM_r _ _ _ _ (by decide)])
      · refine ⟨n + 1, by omega, ?_, ?_, ?_⟩
        · rw [up_s, oN_t (by omega)]
        · rw [up_s, sM_s]
        · intro i hi
          rw [sM_r _ _ _ _ (by decide), up_r _ _ _ _ (by decide)]
          by_cases hin : i = n
          · subst hin
            rw [sM_s, up_s]
            exact ⟨rfl, by have := (rg_iff 256 b).mp hb; omega⟩
          · rw [sM_k _ _ hin, up_k _ _ hin]
            exact n4 i (by omega)
      · intro s q
        exact (h5 s q).keep (fun k => by rw [up_r _ _ _ _ (by omega), up_r _ _ _ _ (by omega)]) (fun k => by rw [up_r _ _ _ _ (by omega), up_r _ _ _ _ (by omega)]) (by rw [sM_r _ _ _ _ (by omega), sM_r _ _ _ _ (by omega)]) (by rw [sM_r _ _ _ _ (by omega), sM_r _ _ _ _ (by omega)]) (by rw [sM_r _ _ _ _ (by omega), sM_r _ _ _ _ (by omega)]) (fun i _ => by rw [sM_r _ _ _ _ (by omega), sM_r _ _ _ _ (by omega)])
      · rw [sM_k _ _ (by decide), sM_r _ _ _ _ (by decide)]; exact h6
      · exact h7.keep (by rw [up_r _ _ _ _ (by omega), up_r _ _ _ _ (by omega)]) (fun a k q => by rw [up_r _ _ _ _ (by omega), up_r _ _ _ _ (by omega)]) (by rw [sM_k _ _ (by decide), sM_r _ _ _ _ (by decide)]) (fun k => by rw [sM_r _ _ _ _ (by omega), sM_r _ _ _ _ (by omega)]) (fun k => by rw [sM_r _ _ _ _ (by omega), sM_r _ _ _ _ (by omega)])
    · simp only [hb, hl, if_true, if_false]
      exact ⟨_, _, _, rfl, rfl, h⟩
  · simp only [hb, if_false]
    exact ⟨_, _, _, rfl, rfl, h⟩
