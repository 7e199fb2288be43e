/-- a run of n from i on lies within m -/
def runV (m : Nat) (i n : Int32) : Bool := decide (0 ≤ i.toInt ∧ 0 ≤ n.toInt ∧ i.toInt + n.toInt ≤ m)
theorem runV_iff (m : Nat) (i n : Int32) : runV m i n = true ↔ 0 ≤ i.toInt ∧ 0 ≤ n.toInt ∧ i.toInt + n.toInt ≤ m := by simp [runV]
theorem s8_run (C : wg_C) (q m : Nat) (hm : m ≤ 40) (h : (C q 2).toInt = m) (i n : Int32) : f_X4_hasRun C q i n = some (bI (runV m i n = true)) := by
  unfold f_X4_hasRun bI
  have h1 := i_up i
  have h2 := i_up n
  simp only [i_lt, i_sub, h, runV_iff, Int32.toInt_zero]
  by_cases a1 : i.toInt < 0
  · rw [if_pos a1, if_neg (by omega)]
  · by_cases a2 : n.toInt < 0
    · rw [if_neg a1, if_pos a2, if_neg (by omega)]
    · by_cases a3 : (m : Int) < i.toInt
      · rw [if_neg a1, if_neg a2, if_pos a3, if_neg (by omega)]
      · rw [if_neg a1, if_neg a2, if_neg a3]
        by_cases a4 : i.toInt + n.toInt ≤ m
        · rw [if_neg (by omega), if_pos (by omega)]
        · rw [if_pos (by omega), if_neg (by omega)]
theorem rowC_p (C : Nat → Nat → Int32) (a lo k : Nat) (f : Nat → Int32) : wg_up (rowC C a (lo + 1) k f) a lo (f lo) = rowC C a lo (k + 1) f := by
  funext b j
  unfold wg_up rowC
  by_cases h1 : b = a
  · by_cases h2 : j = lo
    · rw [if_pos h1, if_pos h2, if_pos ⟨h1, by omega, by omega⟩, h2]
    · rw [if_pos h1, if_neg h2]
      by_cases h3 : lo + 1 ≤ j ∧ j < lo + 1 + k
      · rw [if_pos ⟨h1, h3⟩, if_pos ⟨h1, by omega, by omega⟩]
      · rw [if_neg (fun e => h3 e.2), if_neg (fun e => h3 (by omega))]
  · rw [if_neg h1, if_neg (fun e => h1 e.1), if_neg (fun e => h1 e.1)]
theorem rowM_p (M : wg_M) (a lo k : Nat) (f : Nat → Int32) : wg_sM (rowM M a (lo + 1) k f) a lo (f lo) = rowM M a lo (k + 1) f := by
  unfold wg_sM rowM
  rw [rowC_p]
theorem p40x {s i : Int32} {m k : Nat} (hs : rg 4 s = true) (hi : 0 ≤ i.toInt) (hm : m ≤ 40) (hk : i.toInt + k < m) : inb (40 * s + i + Int32.ofNat k) 160 ∧ (40 * s + i + Int32.ofNat k).toNatClampNeg = 40 * s.toNatClampNeg + i.toNatClampNeg + k := by
  rw [rg_iff] at hs
  have e : (40 * s + i + Int32.ofNat k).toInt = 40 * s.toInt + i.toInt + k := by
    rw [i_add, i_add, i_mul, oN_t (by omega), show (40 : Int32).toInt = 40 from rfl]
    omega
  rw [i_inb, i_cl, i_cl, i_cl, e]
  omega
/-- the copy, from the front or from behind -/
theorem cp_loop {M : wg_M} {s t i j x6 : Int32} {n a b : Nat} (hs : rg 4 s = true) (ht : rg 4 t = true) (hi : 0 ≤ i.toInt) (hj : 0 ≤ j.toInt) (ha : a ≤ 40) (hb : b ≤ 40) (ia : i.toInt + n ≤ a) (jb : j.toInt + n ≤ b) (hx : (x6 = 0 ∧ (s.toNatClampNeg = t.toNatClampNeg → j.toInt ≤ i.toInt)) ∨ (x6 = 1 ∧ s.toNatClampNeg = t.toNatClampNeg ∧ i.toInt < j.toInt)) : lp (fun o => f_X9_copy_l121 NN s i t j (Int32.ofNat n) x6 o.1 o.2) NN (M, (0 : Int32)) = some (rowM M 74 (40 * t.toNatClampNeg + j.toNatClampNeg) n (fun q => M.1 74 (40 * s.toNatClampNeg + i.toNatClampNeg + (q - (40 * t.toNatClampNeg + j.toNatClampNeg)))), Int32.ofNat n) := by
  have ci := i_cl i
  have cj := i_cl j
  have hA : ∃ A, A = 40 * s.toNatClampNeg + i.toNatClampNeg := ⟨_, rfl⟩
  have hB : ∃ B, B = 40 * t.toNatClampNeg + j.toNatClampNeg := ⟨_, rfl⟩
  obtain ⟨A, hA⟩ := hA
  obtain ⟨B, hB⟩ := hB
  rw [← hA, ← hB]
  rcases hx with ⟨rfl, hx⟩ | ⟨rfl, hx, hy⟩
  · have := lp_to (b := fun o => f_X9_copy_l121 NN s i t j (Int32.ofNat n) 0 o.1 o.2) (fun k => (rowM M 74 B k (fun q => M.1 74 (A + (q - B))), Int32.ofNat k)) n (rowM M 74 B n (fun q => M.1 74 (A + (q - B))), Int32.ofNat n) (fun k hk => by
      obtain ⟨e1, e2⟩ := p40x (k := k) hs hi ha (by omega)
      obtain ⟨e3, e4⟩ := p40x (k := k) ht hj hb (by omega)
      simp only [f_X9_copy_l121, f_X9_copy_j145l121, oN_le (show k < 2147483648 by omega) (show n < 2147483648 by omega), Nat.not_le.mpr hk, if_false, if_true, ck_pos e1, ck_pos e3, lt_eq, e2, e4, oN_s, ← hA, ← hB]
      rw [rowM_1, rowC_out (by omega), ← rowM_s]
      simp only [Nat.add_sub_cancel_left]) (by
      simp only [f_X9_copy_l121]
      rw [if_pos ((oN_le (by omega) (by omega)).mpr (Nat.le_refl _))]) NN (by have := NN_big; omega)
    rw [rowM_0] at this
    exact this
  · have := lp_to (b := fun o => f_X9_copy_l121 NN s i t j (Int32.ofNat n) 1 o.1 o.2) (fun k => (rowM M 74 (B + (n - k)) k (fun q => M.1 74 (A + (q - B))), Int32.ofNat k)) n (rowM M 74 B n (fun q => M.1 74 (A + (q - B))), Int32.ofNat n) (fun k hk => by
      have eq : Int32.ofNat n - 1 - Int32.ofNat k = Int32.ofNat (n - 1 - k) := by
        rw [i_eq, i_sub, i_sub, oN_t (by omega), oN_t (by omega), oN_t (by omega), Int32.toInt_one]
        omega
      obtain ⟨e1, e2⟩ := p40x (k := n - 1 - k) hs hi ha (by omega)
      obtain ⟨e3, e4⟩ := p40x (k := n - 1 - k) ht hj hb (by omega)
      simp only [f_X9_copy_l121, f_X9_copy_j145l121, oN_le (show k < 2147483648 by omega) (show n < 2147483648 by omega), Nat.not_le.mpr hk, if_false, show ¬ (1 : Int32) = 0 by decide, eq, ck_pos e1, ck_pos e3, lt_eq, e2, e4, oN_s, ← hA, ← hB]
      rw [rowM_1, rowC_out (by omega)]
      have z := rowM_p M 74 (B + (n - 1 - k)) k (fun q => M.1 74 (A + (q - B)))
      rw [show B + (n - 1 - k) + 1 = B + (n - k) by omega] at z
      rw [show B + (n - (k + 1)) = B + (n - 1 - k) by omega, ← z]
      simp only [Nat.add_sub_cancel_left]) (by
      simp only [f_X9_copy_l121]
      rw [if_pos ((oN_le (by omega) (by omega)).mpr (Nat.le_refl _))]
      rw [Nat.sub_self, Nat.add_zero]) NN (by have := NN_big; omega)
    rw [rowM_0] at this
    exact this
theorem h_copy : H_copy wInv := by
  intro S C M h hw s i t j n
  obtain ⟨hs, np, nt, h1, h2, h3, h4, h5, h6, h7⟩ := id h
  unfold f_X8_copy f_X9_copy
  simp only [s8_isSheet, s9_isSheet, bd_eq, if_bI]
  by_cases g1 : rg 4 s = true
  · by_cases g2 : rg 4 t = true
    · have l1 := cl_lt g1
      have l2 := cl_lt g2
      have q1 := h5 _ l1
      have q2 := h5 _ l2
      simp only [g1, g2, if_true, ck_pos (inb_of g1 (Nat.le_refl _)), ck_pos (inb_of g2 (Nat.le_refl _)), s8_missing, bd_eq, if_bI, q1.no, q2.no]
      by_cases g3 : C (44 + 2 * s.toNatClampNeg) 1 = -1
      · simp only [g3, if_true]
        exact ⟨_, _, _, rfl, rfl, h⟩
      · by_cases g4 : C (44 + 2 * t.toNatClampNeg) 1 = -1
        · simp only [g3, g4, if_true, if_false]
          exact ⟨_, _, _, rfl, rfl, h⟩
        · obtain ⟨a, a1, a2, a3, a4, a5, a6, a7⟩ := q1.yes g3
          obtain ⟨b, b1, b2, b3, b4, b5, b6, b7⟩ := q2.yes g4
          simp only [g3, g4, if_false, a5, b5, s8_run C _ a a1 a3, s8_run C _ b b1 b3, bd_eq, if_bI, a6, b6]
          by_cases g5 : C (44 + 2 * s.toNatClampNeg) 1 = C (44 + 2 * t.toNatClampNeg) 1
          · simp only [g5, if_true]
            have ui := i_up i
            have uj := i_up j
            have un := i_up n
            have ca : C (44 + 2 * s.toNatClampNeg) 2 - n < i ↔ ((a : Int) - n.toInt + 2147483648) % 4294967296 - 2147483648 < i.toInt := by rw [i_lt, i_sub, a3]
            have cb : j ≤ C (44 + 2 * t.toNatClampNeg) 2 - n ↔ j.toInt ≤ ((b : Int) - n.toInt + 2147483648) % 4294967296 - 2147483648 := by rw [i_le, i_sub, b3]
            have r1 := runV_iff a i n
            have r2 := runV_iff b j n
            by_cases g6 : runV a i n = true ∧ runV b j n = true
            · obtain ⟨g6, g7⟩ := g6
              have w1 := r1.mp g6
              have w2 := r2.mp g7
              obtain ⟨m, hm⟩ : ∃ m : Nat, n.toInt = m := ⟨n.toInt.toNat, by omega⟩
              have en := oN_eq hm
              subst en
              rw [hm] at w1 w2 ca cb
              have cn : (Int32.ofNat m).toNatClampNeg = m := oN_cl (by omega)
              have ci := i_cl i
              have cj := i_cl j
              rw [if_pos g6, if_pos g7, ck_pos ⟨by rw [i_lt, Int32.toInt_zero]; omega, by rw [i_lt, Int32.toInt_zero]; omega, by rw [i_lt, Int32.toInt_zero, hm]; omega, by omega, by omega⟩]
              rw [if_neg (by rw [i_lt, Int32.toInt_zero, hm]; omega), if_neg (by rw [i_lt, Int32.toInt_zero]; omega), if_neg (by rw [i_lt, Int32.toInt_zero]; omega), if_neg (by rw [ca]; omega), if_pos (by rw [cb]; omega)]
              have hst : s.toNatClampNeg = t.toNatClampNeg ↔ s = t := by
                rw [rg_iff] at g1 g2
                rw [i_cl, i_cl, i_eq]
                omega
              have e9 : ∀ x6, (x6 = 0 ∧ (s.toNatClampNeg = t.toNatClampNeg → j.toInt ≤ i.toInt)) ∨ (x6 = 1 ∧ s.toNatClampNeg = t.toNatClampNeg ∧ i.toInt < j.toInt) → f_X9_copy_j116 NN M s i t j (Int32.ofNat m) x6 = some (Int32.ofNat m, rowM M 74 (40 * t.toNatClampNeg + j.toNatClampNeg) m (fun q => M.1 74 (40 * s.toNatClampNeg + i.toNatClampNeg + (q - (40 * t.toNatClampNeg + j.toNatClampNeg))))) := fun x6 hx => by
                unfold f_X9_copy_j116
                rw [cp_loop g1 g2 w1.1 w2.1 a1 b1 w1.2.2 w2.2.2 hx]
                rfl
              have e9' : (if s = t then if j ≤ i then f_X9_copy_j116 NN M s i t j (Int32.ofNat m) 0 else f_X9_copy_j116 NN M s i t j (Int32.ofNat m) 1 else f_X9_copy_j116 NN M s i t j (Int32.ofNat m) 0) = some (Int32.ofNat m, rowM M 74 (40 * t.toNatClampNeg + j.toNatClampNeg) m (fun q => M.1 74 (40 * s.toNatClampNeg + i.toNatClampNeg + (q - (40 * t.toNatClampNeg + j.toNatClampNeg))))) := by
                by_cases z1 : s = t
                · by_cases z2 : j ≤ i
                  · rw [if_pos z1, if_pos z2]
                    exact e9 0 (Or.inl ⟨rfl, fun _ => (i_le _ _).mp z2⟩)
                  · rw [if_pos z1, if_neg z2]
                    exact e9 1 (Or.inr ⟨rfl, hst.mpr z1, by rw [i_le] at z2; omega⟩)
                · rw [if_neg z1]
                  exact e9 0 (Or.inl ⟨rfl, fun e => absurd (hst.mp e) z1⟩)
              rw [e9']
              refine ⟨_, _, _, rfl, rfl, ?_⟩
              rw [cn]
              refine h.sh l2 (fun x k q q' => ?_) (fun x k q => ?_) (Or.inr ⟨b, b1, ?_, ?_, ?_, ?_, ?_, ?_⟩)
              · unfold wg_cp
                rw [if_neg (by omega)]
              · rw [rowM_1]
                by_cases e : x = 74
                · exact rowC_out (by omega)
                · exact rowC_ne e
              · unfold wg_cp; rw [if_neg (by omega)]; exact b2
              · unfold wg_cp; rw [if_neg (by omega)]; exact b3
              · rw [rowM_1, rowC_ne (by decide)]; exact b4
              · unfold wg_cp; rw [rowM_1, rowC_ne (by decide), if_neg (by omega)]; exact b5
              · unfold wg_cp; rw [rowM_1, rowC_ne (by decide), if_neg (by omega)]; exact b6
              · intro x hx
                have a7' := a7
                rw [show 45 + 2 * s.toNatClampNeg = 44 + 2 * s.toNatClampNeg + 1 by omega] at a7'
                unfold wg_cp va_cpy
                rw [if_pos (by omega)]
                by_cases z : j.toNatClampNeg ≤ x ∧ x < j.toNatClampNeg + m
                · rw [if_pos z, rowM_1, rowC_in (by omega) (by omega), ← a7' _ (by omega)]
                  rw [show 40 * s.toNatClampNeg + i.toNatClampNeg + (40 * t.toNatClampNeg + x - (40 * t.toNatClampNeg + j.toNatClampNeg)) = 40 * s.toNatClampNeg + (i.toNatClampNeg + (x - j.toNatClampNeg)) by omega]
                · rw [if_neg z, rowM_1, rowC_out (by omega), b7 x hx, show 45 + 2 * t.toNatClampNeg = 44 + 2 * t.toNatClampNeg + 1 by omega]
            · refine ⟨-12, C, M, ?_, ?_, h⟩
              · by_cases g7 : runV a i n = true
                · rw [if_pos g7, if_neg (fun e => g6 ⟨g7, e⟩)]
                · rw [if_neg g7]
              · rw [r1, r2] at g6
                by_cases y1 : n < 0
                · rw [if_pos y1]
                · rw [if_neg y1]
                  by_cases y2 : i < 0
                  · rw [if_pos y2]
                  · rw [if_neg y2]
                    by_cases y3 : j < 0
                    · rw [if_pos y3]
                    · rw [if_neg y3]
                      by_cases y4 : C (44 + 2 * s.toNatClampNeg) 2 - n < i
                      · rw [if_pos y4]
                      · rw [if_neg y4, if_neg]
                        intro y5
                        rw [i_lt, Int32.toInt_zero] at y1 y2 y3
                        rw [ca] at y4
                        rw [cb] at y5
                        exact g6 (by omega)
          · simp only [g5, if_false]
            exact ⟨_, _, _, rfl, rfl, h⟩
    · simp only [g1, g2, if_true]
      exact ⟨_, _, _, rfl, rfl, h⟩
  · simp only [g1]
    exact ⟨_, _, _, rfl, rfl, h⟩
