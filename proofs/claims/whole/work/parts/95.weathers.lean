/-- the weather of a day, on both sides -/
theorem set0 {S : wg_Sh} {C : wg_C} {M : wg_M} (h : wInv S C M) (p v : Int32) : ∃ (r : Int32) (D : wg_C) (L : wg_M), f_X8_set C 0 p v = some (r, D) ∧ f_X9_set M 0 p v = some (r, L) ∧ wInv S D L ∧ (r = -100 ↔ r < 0) ∧ ∀ a k, 12 ≤ a → D a k = C a k := by
  obtain ⟨hs, np, nt, h1, h2, h3, h4, h5, h6, h7⟩ := id h
  rw [s8_set h1, s9_set h1]
  by_cases ho : setOk np 0 p v = true
  · rw [if_pos ho, if_pos ho]
    obtain ⟨g1, g2, g3, g4, g5, g6, g7⟩ := wInv.set hs h1 h2 h3 h4 h5 h6 h7 ho
    have hg := set_neg (v := v) h1 ho
    exact ⟨_, _, _, rfl, rfl, ⟨hs, np, nt, g1, g2, g3, g4, g5, g6, g7⟩, ⟨fun e => absurd e hg.1, fun e => absurd e hg.2⟩, fun a k q => setC_hi k (Or.inr rfl) (Or.inl q)⟩
  · rw [if_neg ho, if_neg ho]
    exact ⟨_, _, _, rfl, rfl, h, by decide, fun a k q => rfl⟩
theorem wr_ix (x : Int32) (k n : Nat) (hk : k ≤ 20) (hn : n ≤ 40) (h : k = 0 ∨ 0 ≤ x.toInt) : (rg n (x + 2 * Int32.ofNat k) = true ∧ rg n (x + 2 * Int32.ofNat k + 1) = true) ↔ (0 ≤ x.toInt ∧ x.toInt + 2 * k + 2 ≤ n) := by
  have h1 := i_up x
  have h2 := i_dn x
  simp only [rg_iff, i_add, i_mul, oN_t (show k < 2147483648 by omega), show (2 : Int32).toInt = 2 from rfl, Int32.toInt_one]
  omega
theorem wr_loop {S : wg_Sh} {s x3 : Int32} {n : Nat} (hs : rg 4 s = true) (hn : n ≤ 20) {C : wg_C} {M : wg_M} (h : wInv S C M) (hm : ¬ C (44 + 2 * s.toNatClampNeg) 1 = -1) : ∃ r q, lp (fun o => f_X8_weathers_l74 NN x3 (Int32.ofNat n) (44 + 2 * s.toNatClampNeg) o.1 o.2.1 o.2.2) NN (C, (0 : Int32), (0 : Int32)) = some r ∧ lp (fun o => f_X9_weathers_l75 NN s x3 (Int32.ofNat n) o.1 o.2.1 o.2.2) NN (M, (0 : Int32), (0 : Int32)) = some q ∧ ((∃ D L v w, r = .inl (D, v, w) ∧ q = .inl (L, v, w) ∧ wInv S D L) ∨ (∃ D L, r = .inr (-12, D) ∧ q = .inr (-12, L) ∧ wInv S D L)) := by
  refine lp_rel (fun (x : wg_C × Int32 × Int32) (y : wg_M × Int32 × Int32) => x.2.1 = y.2.1 ∧ wInv S x.1 y.1 ∧ (¬ x.1 (44 + 2 * s.toNatClampNeg) 1 = -1) ∧ ∃ k, k ≤ n ∧ x.2.2 = Int32.ofNat k ∧ y.2.2 = Int32.ofNat k ∧ (k = 0 ∨ 0 ≤ x3.toInt)) (fun x => n - x.2.2.toInt.toNat) _ ?_ NN NN _ _ ⟨rfl, h, hm, 0, by omega, rfl, rfl, Or.inl rfl⟩ (by have := NN_big; show n - _ < NN; omega) (by have := NN_big; show n - _ < NN; omega)
  rintro ⟨C', v, w⟩ ⟨M', v', w'⟩ ⟨e1, hI, hm', k, hk, e2, e3, hx⟩
  simp only at e1 e2 e3 hI hm'
  subst e1 e2 e3
  have hl := cl_lt hs
  obtain ⟨hq, np, nt, h1, h2, h3, h4, h5, h6, h7⟩ := id hI
  obtain ⟨m, n1, n2, n3, n4, n5, n6, n7⟩ := (h5 _ hl).yes hm'
  have hix := wr_ix x3 k m (by omega) n1 hx
  by_cases g : k = n
  · right
    subst g
    exact ⟨.inl (C', v, Int32.ofNat k), .inl (M', v, Int32.ofNat k), by simp only [f_X8_weathers_l74, oN_le (show k < 2147483648 by omega) (show k < 2147483648 by omega), Nat.le_refl, if_true], by simp only [f_X9_weathers_l75, oN_le (show k < 2147483648 by omega) (show k < 2147483648 by omega), Nat.le_refl, if_true], Or.inl ⟨_, _, _, _, rfl, rfl, hI⟩⟩
  · have gk : k < n := by omega
    have eL : (x3 ≤ M'.1 73 s.toNatClampNeg - 2 * Int32.ofNat k - 2) ↔ x3.toInt + 2 * k + 2 ≤ m := by
      rw [n6, i_le, i_sub, i_sub, i_mul, n3, oN_t (show k < 2147483648 by omega)]
      simp only [show (2 : Int32).toInt = 2 from rfl]
      omega
    simp only [f_X8_weathers_l74, f_X9_weathers_l75, oN_le (show k < 2147483648 by omega) (show n < 2147483648 by omega), Nat.not_le.mpr gk, if_false, lt_eq, s8_shas C' _ m n3, bd_eq, if_bI, eL, ck_pos (inb_of hs (Nat.le_refl _))]
    by_cases gx : rg m (x3 + 2 * Int32.ofNat k) = true ∧ rg m (x3 + 2 * Int32.ofNat k + 1) = true
    · left
      obtain ⟨x0, x1⟩ := hix.mp gx
      have hu := i_up x3
      have ex : (x3 + 2 * Int32.ofNat k).toInt = x3.toInt + 2 * k := by
        rw [i_add, i_mul, oN_t (show k < 2147483648 by omega)]
        simp only [show (2 : Int32).toInt = 2 from rfl]
        omega
      have ec : (x3 + 2 * Int32.ofNat k).toNatClampNeg = (x3.toInt + 2 * k).toNat := by rw [i_cl, ex]
      have ec1 : (x3 + 2 * Int32.ofNat k + 1).toNatClampNeg = (x3.toInt + 2 * k).toNat + 1 := by
        rw [i_cl, i_add, ex, Int32.toInt_one]
        omega
      have es : 40 * s + x3 + 2 * Int32.ofNat k = 40 * s + (x3 + 2 * Int32.ofNat k) := by rw [Int32.add_assoc]
      obtain ⟨p1, p2⟩ := p40 (n := m) hs gx.1 n1
      obtain ⟨p3, p4⟩ := p40 (n := m) hs gx.2 n1
      have es1 : 40 * s + (x3 + 2 * Int32.ofNat k) + 1 = 40 * s + (x3 + 2 * Int32.ofNat k + 1) := by rw [Int32.add_assoc]
      have x0' : ¬ x3 < 0 := by rw [i_lt, Int32.toInt_zero]; omega
      obtain ⟨r, D, L, q1, q2, q3, q4, q5⟩ := set0 hI (C' (44 + 2 * s.toNatClampNeg + 1) (x3 + 2 * Int32.ofNat k).toNatClampNeg) (C' (44 + 2 * s.toNatClampNeg + 1) (x3 + 2 * Int32.ofNat k + 1).toNatClampNeg)
      have m1 := n7 (x3 + 2 * Int32.ofNat k).toNatClampNeg (cl_lt gx.1)
      have m2 := n7 (x3 + 2 * Int32.ofNat k + 1).toNatClampNeg (cl_lt gx.2)
      rw [show 45 + 2 * s.toNatClampNeg = 44 + 2 * s.toNatClampNeg + 1 by omega] at m1 m2
      simp only [gx.1, gx.2, if_true, ck_pos (inb_of gx.1 n1), ck_pos (inb_of gx.2 n1), x0', if_false, x1, es, es1, ck_pos p1, ck_pos p3, p2, p4, m1, m2, q1, q2, bd2_eq]
      have hμ : n - (Int32.ofNat k + 1).toInt.toNat < n - (Int32.ofNat k).toInt.toNat := by
        rw [oN_s, oN_t (by omega), oN_t (by omega)]
        omega
      by_cases gr : r = -100
      · rw [if_pos gr, if_pos (q4.mp gr)]
        exact ⟨_, _, rfl, rfl, ⟨by simp, q3, by show ¬ D (44 + 2 * s.toNatClampNeg) 1 = -1; rw [q5 _ _ (by omega)]; exact hm', k + 1, by omega, oN_s k, oN_s k, Or.inr x0⟩, hμ⟩
      · rw [if_neg gr, if_neg (fun e => gr (q4.mpr e))]
        exact ⟨_, _, rfl, rfl, ⟨rfl, q3, by show ¬ D (44 + 2 * s.toNatClampNeg) 1 = -1; rw [q5 _ _ (by omega)]; exact hm', k + 1, by omega, oN_s k, oN_s k, Or.inr x0⟩, hμ⟩
    · right
      have hr9 : (if x3 < 0 then (some (.inr (.inr ((-12 : Int32), M'))) : Option ((wg_M × Int32 × Int32) ⊕ ((wg_M × Int32 × Int32) ⊕ (Int32 × wg_M)))) else if x3.toInt + 2 * k + 2 ≤ m then none else some (.inr (.inr (-12, M')))) = some (.inr (.inr (-12, M'))) := by
        by_cases x0 : x3 < 0
        · rw [if_pos x0]
        · rw [if_neg x0, if_neg]
          intro e
          rw [i_lt, Int32.toInt_zero] at x0
          exact gx (hix.mpr ⟨by omega, e⟩)
      refine ⟨.inr (-12, C'), .inr (-12, M'), ?_, ?_, Or.inr ⟨_, _, rfl, rfl, hI⟩⟩
      · by_cases ga : rg m (x3 + 2 * Int32.ofNat k) = true
        · rw [if_pos ga, if_neg (fun e => gx ⟨ga, e⟩)]
        · rw [if_neg ga]
      · by_cases x0 : x3 < 0
        · rw [if_pos x0]
        · rw [if_neg x0, if_neg]
          intro e
          rw [i_lt, Int32.toInt_zero] at x0
          exact gx (hix.mpr ⟨by omega, e⟩)
theorem h_weathers : H_weathers wInv := by
  intro S C M h hw s o x3 x4
  obtain ⟨hs, np, nt, h1, h2, h3, h4, h5, h6, h7⟩ := id h
  unfold f_X8_weathers f_X9_weathers
  simp only [s8_isSheet, s9_isSheet, s8_isRowSort, s_inr o 2 3 rfl, s_inr x4 20 21 rfl, bd_eq, if_bI]
  by_cases g1 : rg 4 s = true
  · have hl := cl_lt g1
    have hq := h5 _ hl
    have hi := inb_of g1 (Nat.le_refl _)
    by_cases g2 : rg 3 o = true
    · by_cases g3 : rg 21 x4 = true
      · obtain ⟨n, hn, rfl⟩ := rg_oN g3
        have c1 : ¬ Int32.ofNat n < 0 := by rw [i_lt, oN_t (by omega), Int32.toInt_zero]; omega
        have c2 : Int32.ofNat n ≤ 20 := by rw [i_le, oN_t (by omega), show (20 : Int32).toInt = 20 from rfl]; omega
        simp only [g1, g2, g3, c1, c2, if_true, if_false, ck_pos hi, f_X8_weathers_j57, f_X9_weathers_j57, s8_missing, bd_eq, if_bI, hq.no]
        by_cases g4 : C (44 + 2 * s.toNatClampNeg) 1 = -1
        · simp only [g4, if_true]
          exact ⟨_, _, _, rfl, rfl, h⟩
        · obtain ⟨m, n1, n2, n3, n4, n5, n6, n7⟩ := hq.yes g4
          simp only [g4, if_false, n5]
          by_cases g5 : C (44 + 2 * s.toNatClampNeg) 1 = o
          · obtain ⟨r, q, e1, e2, e3⟩ := wr_loop (x3 := x3) (n := n) g1 (by omega) h g4
            simp only [g5, if_true, e1, e2]
            rcases e3 with ⟨D, L, v, w, rfl, rfl, e3⟩ | ⟨D, L, rfl, rfl, e3⟩
            · exact ⟨_, _, _, rfl, rfl, e3⟩
            · exact ⟨_, _, _, rfl, rfl, e3⟩
          · simp only [g5, if_false]
            exact ⟨_, _, _, rfl, rfl, h⟩
      · have q : ¬ (0 ≤ x4.toInt ∧ x4.toInt < 21) := fun e => g3 ((rg_iff 21 x4).mpr e)
        simp only [g1, g2, g3, if_true]
        refine ⟨-2, C, M, ?_, rfl, h⟩
        simp only [i_lt, i_le, Int32.toInt_zero, show (20 : Int32).toInt = 20 from rfl]
        by_cases g5 : x4.toInt < 0
        · rw [if_pos g5]
        · rw [if_neg g5, if_neg (by omega)]
    · simp only [g1, g2, if_true]
      exact ⟨_, _, _, rfl, rfl, h⟩
  · simp only [g1]
    exact ⟨_, _, _, rfl, rfl, h⟩
