theorem h_film : H_film wInv := by
  intro S C M h hw s p d n
  obtain ⟨hs, np, nt, h1, h2, h3, h4, h5, h6, h7⟩ := id h
  unfold f_X8_film f_X9_film
  simp only [s8_isSheet, s9_isSheet, p8_has h1, p9_isPane h1, s8_isDay, s9_isDay, s_inr n 10 11 rfl, bd_eq, if_bI]
  by_cases g1 : rg 4 s = true
  · by_cases g2 : rg np p = true
    · by_cases g3 : rg 32 d = true
      · by_cases g4 : rg 11 n = true
        · have q := (rg_iff 11 n).mp g4
          have hl := cl_lt g1
          obtain ⟨m, hm, rfl⟩ := rg_oN g4
          simp only [g1, g2, g3, g4, if_true, ck_pos (inb_of g1 (Nat.le_refl _)), s8_sbec, bd_eq]
          rw [if_neg (by rw [i_lt, Int32.toInt_zero]; omega), if_pos (by rw [i_le, show (10 : Int32).toInt = 10 from rfl]; omega)]
          have e9 : f_X9_sheet NN M s 0 (Int32.ofNat m) = some (1, sheetM M s.toNatClampNeg 0 (Int32.ofNat m)) := by
            rw [s9_sheet, if_pos g1, if_neg (by decide), if_pos (by decide), if_neg (by omega), if_neg (by omega)]
          rw [e9, bd2_eq]
          have hI := h.sheet (s := s.toNatClampNeg) hl (o := 0) (n := Int32.ofNat m) (by decide) ((rg_iff 41 _).mpr (by omega))
          have hM : ∀ a k, a ≤ 64 → (sheetM M s.toNatClampNeg 0 (Int32.ofNat m)).1 a k = M.1 a k := fun a k q => by
            unfold sheetM
            rw [if_neg (by decide), rowM_1, rowC_ne (by omega), sM_r _ _ _ _ (by omega), sM_r _ _ _ _ (by omega), sM_r _ _ _ _ (by omega)]
          have e8 := s8_film (D := sheetC C s.toNatClampNeg 0 (Int32.ofNat m)) h1 (d := d) g1 g2 (m := m) (by omega) (fun a k q => by unfold sheetC; rw [up_r _ _ _ _ (by omega), up_r _ _ _ _ (by omega), rowC_ne (by omega)]) (by unfold sheetC; rw [up_k _ _ (by decide), up_s])
          unfold sheetC at e8
          rw [e8, s9_film (L := sheetM M s.toNatClampNeg 0 (Int32.ofNat m)) h1 (d := d) g1 g2 (m := m) (by omega) hM]
          refine ⟨Int32.ofNat m, rowC (sheetC C s.toNatClampNeg 0 (Int32.ofNat m)) (44 + 2 * s.toNatClampNeg + 1) 0 m (fun i => showV C (4 + p.toNatClampNeg) (d + Int32.ofNat i)), rowM (sheetM M s.toNatClampNeg 0 (Int32.ofNat m)) 74 (40 * s.toNatClampNeg) m (fun j => showV C (4 + p.toNatClampNeg) (d + Int32.ofNat (j - 40 * s.toNatClampNeg))), rfl, rfl, ?_⟩
          have hz := hI.2
          obtain ⟨np', nt', _, _, _, _, z5, _, _⟩ := hz
          have zs : IShb (sheetC C s.toNatClampNeg 0 (Int32.ofNat m)) (sheetM M s.toNatClampNeg 0 (Int32.ofNat m)) s.toNatClampNeg := (z5 _ hl).yes (by unfold sheetC; rw [up_k _ _ (by decide), up_s]; decide)
          obtain ⟨n', n1, n2, n3, n4, n5, n6, n7⟩ := zs
          have hn' : n' = m := by
            unfold sheetC at n3
            rw [up_s, oN_t (by omega)] at n3
            omega
          subst hn'
          refine hI.sh hl (fun a k q q' => ?_) (fun a k q => ?_) (Or.inr ⟨n', n1, ?_, ?_, ?_, ?_, ?_, ?_⟩)
          · exact rowC_ne (by omega)
          · rw [rowM_1]
            by_cases e : a = 74
            · rw [rowC_out (by omega)]
            · rw [rowC_ne e]
          · rw [rowC_ne (by omega)]; exact n2
          · rw [rowC_ne (by omega)]; exact n3
          · rw [rowM_1, rowC_ne (by omega)]; exact n4
          · rw [rowM_1, rowC_ne (by omega), rowC_ne (by omega)]; exact n5
          · rw [rowM_1, rowC_ne (by omega), rowC_ne (by omega)]; exact n6
          · intro i hi
            rw [rowM_1, rowC_in (by omega) (by omega), show 45 + 2 * s.toNatClampNeg = 44 + 2 * s.toNatClampNeg + 1 by omega, rowC_in (by omega) (by omega), Nat.add_sub_cancel_left]
        · have q : ¬ (0 ≤ n.toInt ∧ n.toInt < 11) := fun e => g4 ((rg_iff 11 n).mpr e)
          simp only [g1, g2, g3, g4, if_true, if_false]
          refine ⟨-2, C, M, ?_, rfl, h⟩
          simp only [i_lt, i_le, Int32.toInt_zero, show (10 : Int32).toInt = 10 from rfl]
          by_cases g5 : n.toInt < 0
          · rw [if_pos g5]
          · rw [if_neg g5, if_neg (by omega)]
      · simp only [g1, g2, g3, if_true]
        exact ⟨_, _, _, rfl, rfl, h⟩
    · simp only [g1, g2, if_true]
      exact ⟨_, _, _, rfl, rfl, h⟩
  · simp only [g1]
    exact ⟨_, _, _, rfl, rfl, h⟩
