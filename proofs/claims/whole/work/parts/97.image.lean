theorem IHo.keep2 {np : Nat} {C D : wg_C} {M L : wg_M} (h : IHo np C M) (h0 : D 1 2 = C 1 2) (h2 : ∀ d, d < 32 → D 2 d = C 2 d) (hp : ∀ p k, p < 8 → D (4 + p) k = C (4 + p) k) (hM : ∀ a k, 59 ≤ a → a ≤ 64 → L.1 a k = M.1 a k) (hn : L.1 55 13 = M.1 55 13) : IHo np D L := by
  obtain ⟨q1, q2, q3, q4, q5, q6⟩ := h
  refine ⟨q1, by rw [h0]; exact q2, by rw [hn, h0]; exact q3, ?_, ?_, ?_⟩
  · intro d hd
    have := q4 d hd
    unfold IS at *
    rw [h2 d hd, hM 59 d (by omega) (by omega)]
    exact this
  · intro p h8
    rw [hp p 0 h8]
    exact q5 p h8
  · intro p h8
    have := q6 p h8
    unfold IP at *
    simp only [hp p _ (show p < 8 by omega), hM 60 p (by omega) (by omega), hM 61 p (by omega) (by omega), hM 62 p (by omega) (by omega), hM 63 p (by omega) (by omega), hM 64 p (by omega) (by omega)]
    exact this
/-- panes from s on become panes from d on -/
def paC (C : wg_C) (d s k : Nat) : wg_C := fun a j => if (d ≤ a ∧ a < d + k) ∧ 1 ≤ j ∧ j ≤ 5 then C (a - d + s) j else C a j
theorem s8_bec (C : wg_C) (p q : Nat) (h : p ≠ q) : f_X1_become C p q = some (fun a j => if a = p ∧ 1 ≤ j ∧ j ≤ 5 then C q j else C a j) := by
  unfold f_X1_become
  simp only [lt_eq]
  congr 1
  funext a j
  by_cases e : a = p
  · subst e
    by_cases e1 : j = 1
    · subst e1; simp [wg_up, Ne.symm h]
    by_cases e2 : j = 2
    · subst e2; simp [wg_up, Ne.symm h]
    by_cases e3 : j = 3
    · subst e3; simp [wg_up, Ne.symm h]
    by_cases e4 : j = 4
    · subst e4; simp [wg_up, Ne.symm h]
    by_cases e5 : j = 5
    · subst e5; simp [wg_up, Ne.symm h]
    simp only [wg_up, e1, e2, e3, e4, e5, if_true, if_false]
    rw [if_neg (by omega)]
  · simp only [wg_up, e, if_false, false_and]
theorem paC_s (C : wg_C) (d s k : Nat) (hds : d + 8 ≤ s ∨ s + 8 ≤ d) (hk : k < 8) : f_X1_become (paC C d s k) (d + k) (s + k) = some (paC C d s (k + 1)) := by
  rw [s8_bec _ _ _ (by omega)]
  congr 1
  funext a j
  unfold paC
  by_cases e : a = d + k
  · subst e
    by_cases e1 : 1 ≤ j ∧ j ≤ 5
    · rw [if_pos ⟨rfl, e1⟩, if_neg (by omega), if_pos (by omega)]
      congr 1
      omega
    · rw [if_neg (fun x => e1 x.2), if_neg (fun x => e1 x.2), if_neg (fun x => e1 x.2)]
  · rw [if_neg (fun x => e x.1)]
    by_cases e1 : (d ≤ a ∧ a < d + k) ∧ 1 ≤ j ∧ j ≤ 5
    · rw [if_pos e1, if_pos (by omega)]
    · rw [if_neg e1, if_neg (by omega)]
theorem paC_0 (C : wg_C) (d s : Nat) : paC C d s 0 = C := by
  funext a j
  unfold paC
  rw [if_neg (by omega)]
theorem s8_im (C : wg_C) : lp (fun o => f_X0_become_l17 NN o.1 o.2) NN (C, (0 : Int32)) = some (paC C 15 4 8, 8) := by
  have := lp_to (b := fun o => f_X0_become_l17 NN o.1 o.2) (fun k => (paC C 15 4 k, Int32.ofNat k)) 8 (paC C 15 4 8, 8) (fun k hk => by
    simp only [f_X0_become_l17, show (8 : Int32) = Int32.ofNat 8 from rfl, oN_le (show k < 2147483648 by omega) (show 8 < 2147483648 by omega), Nat.not_le.mpr hk, if_false, ck_pos (oN_inb hk (by omega)), lt_eq, oN_cl (show k < 2147483648 by omega), oN_s, paC_s C 15 4 k (by omega) hk, bd_eq]) (by rfl) NN (by have := NN_big; omega)
  rw [paC_0] at this
  exact this
theorem s8_ba (C : wg_C) : lp (fun o => f_X0_become_i1_l17 NN o.1 o.2) NN (C, (0 : Int32)) = some (paC C 4 15 8, 8) := by
  have := lp_to (b := fun o => f_X0_become_i1_l17 NN o.1 o.2) (fun k => (paC C 4 15 k, Int32.ofNat k)) 8 (paC C 4 15 8, 8) (fun k hk => by
    simp only [f_X0_become_i1_l17, show (8 : Int32) = Int32.ofNat 8 from rfl, oN_le (show k < 2147483648 by omega) (show 8 < 2147483648 by omega), Nat.not_le.mpr hk, if_false, ck_pos (oN_inb hk (by omega)), lt_eq, oN_cl (show k < 2147483648 by omega), oN_s, paC_s C 4 15 k (by omega) hk, bd_eq]) (by rfl) NN (by have := NN_big; omega)
  rw [paC_0] at this
  exact this
def imM (M : wg_M) (k : Nat) : wg_M := (fun a j => if a = 70 ∧ j % 8 < k ∧ j < 32 then M.1 (61 + j / 8) (j % 8) else M.1 a j, M.2)
def baM (M : wg_M) (k : Nat) : wg_M := (fun a j => if (61 ≤ a ∧ a ≤ 64) ∧ j < k then M.1 70 (8 * (a - 61) + j) else M.1 a j, M.2)
theorem imM_0 (M : wg_M) : imM M 0 = M := by
  unfold imM
  refine Prod.ext ?_ rfl
  funext a j
  exact if_neg (by omega)
theorem baM_0 (M : wg_M) : baM M 0 = M := by
  unfold baM
  refine Prod.ext ?_ rfl
  funext a j
  exact if_neg (by omega)
theorem imM_r (M : wg_M) (k a j : Nat) (h : a ≠ 70) : (imM M k).1 a j = M.1 a j := if_neg (fun e => h e.1)
theorem baM_r (M : wg_M) (k a j : Nat) (h : ¬ (61 ≤ a ∧ a ≤ 64)) : (baM M k).1 a j = M.1 a j := if_neg (fun e => h e.1)
theorem imM_s (M : wg_M) (k : Nat) (hk : k < 8) : wg_sM (wg_sM (wg_sM (wg_sM (imM M k) 70 k (M.1 61 k)) 70 (8 + k) (M.1 62 k)) 70 (16 + k) (M.1 63 k)) 70 (24 + k) (M.1 64 k) = imM M (k + 1) := by
  refine Prod.ext ?_ rfl
  funext a j
  show wg_up (wg_up (wg_up (wg_up (imM M k).1 70 k _) 70 (8 + k) _) 70 (16 + k) _) 70 (24 + k) _ a j = _
  by_cases e : a = 70
  · subst e
    by_cases e4 : j = 24 + k
    · subst e4
      rw [up_s]
      show _ = if _ then _ else _
      rw [if_pos (by omega), show 61 + (24 + k) / 8 = 64 by omega, show (24 + k) % 8 = k by omega]
    rw [up_k _ _ e4]
    by_cases e3 : j = 16 + k
    · subst e3
      rw [up_s]
      show _ = if _ then _ else _
      rw [if_pos (by omega), show 61 + (16 + k) / 8 = 63 by omega, show (16 + k) % 8 = k by omega]
    rw [up_k _ _ e3]
    by_cases e2 : j = 8 + k
    · subst e2
      rw [up_s]
      show _ = if _ then _ else _
      rw [if_pos (by omega), show 61 + (8 + k) / 8 = 62 by omega, show (8 + k) % 8 = k by omega]
    rw [up_k _ _ e2]
    by_cases e1 : j = k
    · subst e1
      rw [up_s]
      show _ = if _ then _ else _
      rw [if_pos (by omega), show 61 + j / 8 = 61 by omega, show j % 8 = j by omega]
    rw [up_k _ _ e1]
    show (if _ then _ else _) = if _ then _ else _
    by_cases z : j % 8 < k ∧ j < 32
    · rw [if_pos ⟨rfl, z⟩, if_pos ⟨rfl, by omega⟩]
    · rw [if_neg (fun x => z x.2), if_neg (by omega)]
  · rw [up_r _ _ _ _ e, up_r _ _ _ _ e, up_r _ _ _ _ e, up_r _ _ _ _ e]
    exact (imM_r _ _ _ _ e).trans (imM_r _ _ _ _ e).symm
theorem baM_s (M : wg_M) (k : Nat) (hk : k < 8) : wg_sM (wg_sM (wg_sM (wg_sM (baM M k) 61 k (M.1 70 k)) 62 k (M.1 70 (8 + k))) 63 k (M.1 70 (16 + k))) 64 k (M.1 70 (24 + k)) = baM M (k + 1) := by
  refine Prod.ext ?_ rfl
  funext a j
  show wg_up (wg_up (wg_up (wg_up (baM M k).1 61 k _) 62 k _) 63 k _) 64 k _ a j = _
  by_cases ej : j = k
  · subst ej
    by_cases e4 : a = 64
    · subst e4; rw [up_s]; show _ = if _ then _ else _; rw [if_pos (by omega)]
    rw [up_r _ _ _ _ e4]
    by_cases e3 : a = 63
    · subst e3; rw [up_s]; show _ = if _ then _ else _; rw [if_pos (by omega)]
    rw [up_r _ _ _ _ e3]
    by_cases e2 : a = 62
    · subst e2; rw [up_s]; show _ = if _ then _ else _; rw [if_pos (by omega)]
    rw [up_r _ _ _ _ e2]
    by_cases e1 : a = 61
    · subst e1; rw [up_s]; show _ = if _ then _ else _; rw [if_pos (by omega)]; simp
    rw [up_r _ _ _ _ e1]
    show (if _ then _ else _) = if _ then _ else _
    rw [if_neg (by omega), if_neg (by omega)]
  · rw [up_k _ _ ej, up_k _ _ ej, up_k _ _ ej, up_k _ _ ej]
    show (if _ then _ else _) = if _ then _ else _
    by_cases z : (61 ≤ a ∧ a ≤ 64) ∧ j < k
    · rw [if_pos z, if_pos (by omega)]
    · rw [if_neg z, if_neg (by omega)]
theorem oN_in3 {k q : Nat} {x : Int32} (hx : x = Int32.ofNat q) (hk : k < 8) (hq : q ≤ 24) : inb (x + Int32.ofNat k) 32 ∧ (x + Int32.ofNat k).toNatClampNeg = q + k := by
  subst hx
  have : (Int32.ofNat q + Int32.ofNat k).toInt = q + k := by rw [i_add, oN_t (by omega), oN_t (by omega)]; omega
  rw [i_inb, i_cl, this]
  omega
theorem s9_im1 (M : wg_M) : lp (fun o => f_X9_image_l2 NN o.1 o.2) NN (M, (0 : Int32)) = some (rowM M 69 0 32 (M.1 59), 32) := by
  have := lp_to (b := fun o => f_X9_image_l2 NN o.1 o.2) (fun k => (rowM M 69 0 k (M.1 59), Int32.ofNat k)) 32 (rowM M 69 0 32 (M.1 59), 32) (fun k hk => by
    simp only [f_X9_image_l2, show (32 : Int32) = Int32.ofNat 32 from rfl, oN_le (show k < 2147483648 by omega) (show 32 < 2147483648 by omega), Nat.not_le.mpr hk, if_false, ck_pos (oN_inb hk (by omega)), lt_eq, oN_cl (show k < 2147483648 by omega), oN_s]
    rw [rowM_1, rowC_ne (by decide), ← rowM_s, Nat.zero_add]) (by rfl) NN (by have := NN_big; omega)
  rw [rowM_0] at this
  exact this
theorem s9_ba1 (M : wg_M) : lp (fun o => f_X9_back_l13 NN o.1 o.2) NN (M, (0 : Int32)) = some (rowM M 59 0 32 (M.1 69), 32) := by
  have := lp_to (b := fun o => f_X9_back_l13 NN o.1 o.2) (fun k => (rowM M 59 0 k (M.1 69), Int32.ofNat k)) 32 (rowM M 59 0 32 (M.1 69), 32) (fun k hk => by
    simp only [f_X9_back_l13, show (32 : Int32) = Int32.ofNat 32 from rfl, oN_le (show k < 2147483648 by omega) (show 32 < 2147483648 by omega), Nat.not_le.mpr hk, if_false, ck_pos (oN_inb hk (by omega)), lt_eq, oN_cl (show k < 2147483648 by omega), oN_s]
    rw [rowM_1, rowC_ne (by decide), ← rowM_s, Nat.zero_add]) (by rfl) NN (by have := NN_big; omega)
  rw [rowM_0] at this
  exact this
theorem s9_im2 (M : wg_M) : lp (fun o => f_X9_image_l28 NN o.1 o.2) NN (M, (0 : Int32)) = some (imM M 8, 8) := by
  have := lp_to (b := fun o => f_X9_image_l28 NN o.1 o.2) (fun k => (imM M k, Int32.ofNat k)) 8 (imM M 8, 8) (fun k hk => by
    obtain ⟨a1, b1⟩ := oN_in3 (x := 8) (q := 8) rfl hk (by omega)
    obtain ⟨a2, b2⟩ := oN_in3 (x := 16) (q := 16) rfl hk (by omega)
    obtain ⟨a3, b3⟩ := oN_in3 (x := 24) (q := 24) rfl hk (by omega)
    have g : ¬ (8 : Int32) ≤ Int32.ofNat k := by
      rw [show (8 : Int32) = Int32.ofNat 8 from rfl, oN_le (show k < 2147483648 by omega) (show 8 < 2147483648 by omega)]
      omega
    simp only [f_X9_image_l28, g, if_false, ck_pos (oN_inb hk (by omega)), ck_pos (oN_inb (show k < 32 by omega) (by omega)), ck_pos a1, ck_pos a2, ck_pos a3, b1, b2, b3, lt_eq, oN_cl (show k < 2147483648 by omega), oN_s]
    rw [← imM_s M k hk]
    simp only [sM_r _ _ _ _ (show 62 ≠ 70 by decide), sM_r _ _ _ _ (show 63 ≠ 70 by decide), sM_r _ _ _ _ (show 64 ≠ 70 by decide), imM_r _ _ _ _ (show 61 ≠ 70 by decide), imM_r _ _ _ _ (show 62 ≠ 70 by decide), imM_r _ _ _ _ (show 63 ≠ 70 by decide), imM_r _ _ _ _ (show 64 ≠ 70 by decide)]) (by rfl) NN (by have := NN_big; omega)
  rw [imM_0] at this
  exact this
theorem s9_ba2 (M : wg_M) : lp (fun o => f_X9_back_l39 NN o.1 o.2) NN (M, (0 : Int32)) = some (baM M 8, 8) := by
  have := lp_to (b := fun o => f_X9_back_l39 NN o.1 o.2) (fun k => (baM M k, Int32.ofNat k)) 8 (baM M 8, 8) (fun k hk => by
    obtain ⟨a1, b1⟩ := oN_in3 (x := 8) (q := 8) rfl hk (by omega)
    obtain ⟨a2, b2⟩ := oN_in3 (x := 16) (q := 16) rfl hk (by omega)
    obtain ⟨a3, b3⟩ := oN_in3 (x := 24) (q := 24) rfl hk (by omega)
    have g : ¬ (8 : Int32) ≤ Int32.ofNat k := by
      rw [show (8 : Int32) = Int32.ofNat 8 from rfl, oN_le (show k < 2147483648 by omega) (show 8 < 2147483648 by omega)]
      omega
    simp only [f_X9_back_l39, g, if_false, ck_pos (oN_inb hk (by omega)), ck_pos (oN_inb (show k < 32 by omega) (by omega)), ck_pos a1, ck_pos a2, ck_pos a3, b1, b2, b3, lt_eq, oN_cl (show k < 2147483648 by omega), oN_s]
    rw [← baM_s M k hk]
    simp only [sM_r _ _ _ _ (show 70 ≠ 61 by decide), sM_r _ _ _ _ (show 70 ≠ 62 by decide), sM_r _ _ _ _ (show 70 ≠ 63 by decide), baM_r _ _ 70 _ (by omega)]) (by rfl) NN (by have := NN_big; omega)
  rw [baM_0] at this
  exact this
theorem h_image : H_image wInv := by
  intro S C M h hw
  obtain ⟨hs, np, nt, h1, h2, h3, h4, h5, h6, h7⟩ := id h
  have hck : (¬ (0 : Int32) < 0 ∧ ¬ (0 : Int32) < 0 ∧ ¬ (32 : Int32) < 0 ∧ (0 : Int32).toNatClampNeg + (32 : Int32).toNatClampNeg ≤ 32 ∧ (0 : Int32).toNatClampNeg + (32 : Int32).toNatClampNeg ≤ 32) := by decide
  have hC1 : ∃ C1 : wg_C, C1 = wg_cp C 2 13 0 0 32 := ⟨_, rfl⟩
  obtain ⟨C1, hC1⟩ := hC1
  have c1 : ∀ a j, a ≠ 13 → C1 a j = C a j := fun a j e => by rw [hC1]; exact if_neg e
  have c2 : ∀ d, d < 32 → C1 13 d = C 2 d := fun d hd => by
    rw [hC1]
    unfold wg_cp va_cpy
    rw [if_pos rfl, if_pos (by omega), Nat.zero_add, Nat.sub_zero]
  have hC2 : ∃ C2 : wg_C, C2 = wg_up (wg_up (wg_up (paC C1 15 4 8) 12 2 (C 1 2)) 12 3 (C 1 3)) 0 2 1 := ⟨_, rfl⟩
  obtain ⟨C2, hC2⟩ := hC2
  have e8 : f_X8_image NN C = some (C 1 2, C2) := by
    unfold f_X8_image f_X0_become
    rw [ck_pos hck]
    simp only [lt_eq]
    rw [show wg_cp C 2 13 (0 : Int32).toNatClampNeg (0 : Int32).toNatClampNeg (32 : Int32).toNatClampNeg = C1 from hC1.symm, s8_im, bd2_eq]
    have p1 : paC C1 15 4 8 1 2 = C 1 2 := (if_neg (by omega)).trans (c1 _ _ (by decide))
    have p2 : paC C1 15 4 8 1 3 = C 1 3 := (if_neg (by omega)).trans (c1 _ _ (by decide))
    rw [p1, bd_eq, up_r _ _ _ _ (show 1 ≠ 12 by decide), p2, up_r _ _ _ _ (show 12 ≠ 0 by decide), up_k _ _ (show 2 ≠ 3 by decide), up_s, ← hC2]
  have hM1 : ∃ M1 : wg_M, M1 = wg_sM (wg_sM (imM (rowM M 69 0 32 (M.1 59)) 8) 55 38 (M.1 55 13)) 55 39 (M.1 55 4) := ⟨_, rfl⟩
  obtain ⟨M1, hM1⟩ := hM1
  have m0 : ∀ a j, a ≠ 69 → a ≠ 70 → (imM (rowM M 69 0 32 (M.1 59)) 8).1 a j = M.1 a j := fun a j e1 e2 => by
    rw [imM_r _ _ _ _ e2, rowM_1, rowC_ne e1]
  have e9 : f_X9_image NN M = some (C 1 2, M1) := by
    unfold f_X9_image
    rw [s9_im1, bd2_eq, s9_im2, bd2_eq]
    simp only [lt_eq]
    rw [m0 55 13 (by decide) (by decide), sM_k _ _ (show 4 ≠ 38 by decide), m0 55 4 (by decide) (by decide), sM_k _ _ (show 13 ≠ 39 by decide), sM_k _ _ (show 13 ≠ 38 by decide), m0 55 13 (by decide) (by decide), ← hM1, h1.2.2.1]
  have d1 : ∀ a j, a ≠ 13 → ¬ (15 ≤ a ∧ a < 23) → a ≠ 12 → ¬ (a = 0 ∧ j = 2) → C2 a j = C a j := fun a j q1 q2 q3 q4 => by
    have z : wg_up (wg_up (paC C1 15 4 8) 12 2 (C 1 2)) 12 3 (C 1 3) a j = C a j := by
      rw [up_r _ _ _ _ q3, up_r _ _ _ _ q3]
      exact (if_neg (by omega)).trans (c1 _ _ q1)
    rw [hC2]
    by_cases q5 : a = 0
    · rw [up_k _ _ (fun e => q4 ⟨q5, e⟩)]; exact z
    · rw [up_r _ _ _ _ q5]; exact z
  have l1 : ∀ a j, a ≠ 69 → a ≠ 70 → ¬ (a = 55 ∧ (j = 38 ∨ j = 39)) → M1.1 a j = M.1 a j := fun a j q1 q2 q3 => by
    rw [hM1]
    by_cases q5 : a = 55
    · rw [sM_k _ _ (by omega), sM_k _ _ (by omega)]; exact m0 a j q1 q2
    · rw [sM_r _ _ _ _ q5, sM_r _ _ _ _ q5]; exact m0 a j q1 q2
  refine ⟨_, _, _, e8, e9, hs, np, nt, ?_, ?_, ?_, ?_, ?_, ?_, ?_⟩
  · exact h1.keep2 (d1 _ _ (by omega) (by omega) (by omega) (by omega)) (fun d _ => d1 _ _ (by omega) (by omega) (by omega) (by omega)) (fun p k hp => d1 _ _ (by omega) (by omega) (by omega) (by omega)) (fun a k q q' => l1 _ _ (by omega) (by omega) (by omega)) (l1 _ _ (by omega) (by omega) (by omega))
  · refine Or.inr ⟨by rw [hC2, up_s], np, Nat.le_refl _, ?_, ?_, ?_, ?_, ?_, ?_⟩
    · rw [hC2, up_r _ _ _ _ (by decide), up_k _ _ (by decide), up_s]; exact h1.2.1
    · rw [hC2, up_r _ _ _ _ (by decide), up_k _ _ (by decide), up_s, hM1, sM_k _ _ (by decide), sM_s]; exact h1.2.2.1
    · rw [hC2, up_r _ _ _ _ (by decide), up_s, hM1, sM_s]; exact h3.1
    · rw [hC2, up_r _ _ _ _ (by decide), up_s]; exact h3.2
    · intro d hd
      have := h1.2.2.2.1 d hd
      unfold ISk IS at *
      have z : C2 13 d = C 2 d := by
        rw [hC2, up_r _ _ _ _ (by decide), up_r _ _ _ _ (by decide), up_r _ _ _ _ (by decide)]
        exact (if_neg (by omega)).trans (c2 d hd)
      rw [z, hM1, sM_r _ _ _ _ (by decide), sM_r _ _ _ _ (by decide), imM_r _ _ _ _ (by decide), rowM_1, rowC_in (by omega) (by omega)]
      exact this
    · intro p hp
      have h8 := h1.1
      have := h1.2.2.2.2.2 p hp
      unfold IPk IP at *
      have z : ∀ j, 1 ≤ j → j ≤ 5 → C2 (15 + p) j = C (4 + p) j := fun j j1 j2 => by
        rw [hC2, up_r _ _ _ _ (by omega), up_r _ _ _ _ (by omega), up_r _ _ _ _ (by omega)]
        refine (if_pos (by omega)).trans ?_
        rw [show 15 + p - 15 + 4 = 4 + p by omega]
        exact c1 _ _ (by omega)
      have y : ∀ q, q < 4 → M1.1 70 (8 * q + p) = M.1 (61 + q) p := fun q hq => by
        rw [hM1, sM_r _ _ _ _ (by decide), sM_r _ _ _ _ (by decide)]
        refine (if_pos (by omega)).trans ?_
        rw [show 61 + (8 * q + p) / 8 = 61 + q by omega, show (8 * q + p) % 8 = p by omega, rowM_1, rowC_ne (by omega)]
      have y0 := y 0 (by omega)
      have y1 := y 1 (by omega)
      have y2 := y 2 (by omega)
      have y3 := y 3 (by omega)
      simp only [Nat.mul_zero, Nat.zero_add, Nat.mul_one, Nat.add_zero, show 8 * 2 = 16 from rfl, show 8 * 3 = 24 from rfl, show 61 + 1 = 62 from rfl, show 61 + 2 = 63 from rfl, show 61 + 3 = 64 from rfl] at y0 y1 y2 y3
      simp only [z 1 (by omega) (by omega), z 2 (by omega) (by omega), z 3 (by omega) (by omega), z 4 (by omega) (by omega), z 5 (by omega) (by omega), y0, y1, y2, y3, l1 60 p (by omega) (by omega) (by omega)]
      exact this
  · exact h3.keep (d1 _ _ (by omega) (by omega) (by omega) (by omega)) (l1 _ _ (by omega) (by omega) (by omega))
  · exact h4.keep (d1 _ _ (by omega) (by omega) (by omega) (by omega)) (fun k => d1 _ _ (by omega) (by omega) (by omega) (by omega)) (l1 _ _ (by omega) (by omega) (by omega)) (fun k => l1 _ _ (by omega) (by omega) (by omega))
  · intro s hs'
    exact (h5 s hs').keep (fun k => d1 _ _ (by omega) (by omega) (by omega) (by omega)) (fun k => d1 _ _ (by omega) (by omega) (by omega) (by omega)) (l1 _ _ (by omega) (by omega) (by omega)) (l1 _ _ (by omega) (by omega) (by omega)) (l1 _ _ (by omega) (by omega) (by omega)) (fun i _ => l1 _ _ (by omega) (by omega) (by omega))
  · rw [l1 _ _ (by omega) (by omega) (by omega)]; exact h6
  · exact h7.keep (d1 _ _ (by omega) (by omega) (by omega) (by omega)) (fun a k q => d1 _ _ (by omega) (by omega) (by omega) (by omega)) (l1 _ _ (by omega) (by omega) (by omega)) (fun k => l1 _ _ (by omega) (by omega) (by omega)) (fun k => l1 _ _ (by omega) (by omega) (by omega))
theorem h_back : H_back wInv := by
  intro S C M h hw
  obtain ⟨hs, np, nt, h1, h2, h3, h4, h5, h6, h7⟩ := id h
  rcases h2 with ⟨k1, k2⟩ | ⟨k1, kp, k3, k4, k5, k6, k7, k8, k9⟩
  · refine ⟨-3, C, M, ?_, ?_, h⟩
    · unfold f_X8_back
      rw [if_pos k1]
    · unfold f_X9_back
      rw [if_pos k2]
  have h8 := h1.1
  have hck : (¬ (0 : Int32) < 0 ∧ ¬ (0 : Int32) < 0 ∧ ¬ (32 : Int32) < 0 ∧ (0 : Int32).toNatClampNeg + (32 : Int32).toNatClampNeg ≤ 32 ∧ (0 : Int32).toNatClampNeg + (32 : Int32).toNatClampNeg ≤ 32) := by decide
  have hC1 : ∃ C1 : wg_C, C1 = wg_cp C 13 2 0 0 32 := ⟨_, rfl⟩
  obtain ⟨C1, hC1⟩ := hC1
  have c1 : ∀ a j, a ≠ 2 → C1 a j = C a j := fun a j e => by rw [hC1]; exact if_neg e
  have c2 : ∀ d, d < 32 → C1 2 d = C 13 d := fun d hd => by
    rw [hC1]
    unfold wg_cp va_cpy
    rw [if_pos rfl, if_pos (by omega), Nat.zero_add, Nat.sub_zero]
  have hC2 : ∃ C2 : wg_C, C2 = wg_up (wg_up (paC C1 4 15 8) 1 2 (C 12 2)) 1 3 (C 12 3) := ⟨_, rfl⟩
  obtain ⟨C2, hC2⟩ := hC2
  have e8 : f_X8_back NN C = some (C 12 2, C2) := by
    unfold f_X8_back f_X0_become_i1
    rw [if_neg (by rw [k1]; decide), ck_pos hck]
    simp only [lt_eq]
    rw [show wg_cp C 13 2 (0 : Int32).toNatClampNeg (0 : Int32).toNatClampNeg (32 : Int32).toNatClampNeg = C1 from hC1.symm, s8_ba, bd2_eq]
    have p1 : paC C1 4 15 8 12 2 = C 12 2 := (if_neg (by omega)).trans (c1 _ _ (by decide))
    have p2 : paC C1 4 15 8 12 3 = C 12 3 := (if_neg (by omega)).trans (c1 _ _ (by decide))
    rw [p1, bd_eq, up_r _ _ _ _ (show 12 ≠ 1 by decide), p2, up_k _ _ (show 2 ≠ 3 by decide), up_s, ← hC2]
  have hM1 : ∃ M1 : wg_M, M1 = wg_sM (wg_sM (baM (rowM M 59 0 32 (M.1 69)) 8) 55 13 (M.1 55 38)) 55 4 (M.1 55 39) := ⟨_, rfl⟩
  obtain ⟨M1, hM1⟩ := hM1
  have m0 : ∀ a j, a ≠ 59 → ¬ (61 ≤ a ∧ a ≤ 64) → (baM (rowM M 59 0 32 (M.1 69)) 8).1 a j = M.1 a j := fun a j e1 e2 => by
    rw [baM_r _ _ _ _ e2, rowM_1, rowC_ne e1]
  have e9 : f_X9_back NN M = some (C 12 2, M1) := by
    unfold f_X9_back
    rw [if_neg (by rw [k5, i_eq, k4]; show ¬ (kp : Int) = -1; omega), s9_ba1, bd2_eq, s9_ba2, bd2_eq]
    simp only [lt_eq]
    rw [m0 55 38 (by decide) (by decide), sM_k _ _ (show 39 ≠ 13 by decide), m0 55 39 (by decide) (by decide), sM_k _ _ (show 13 ≠ 4 by decide), sM_s, ← hM1, k5]
  have d1 : ∀ a j, a ≠ 2 → ¬ (4 ≤ a ∧ a < 12) → ¬ (a = 1 ∧ (j = 2 ∨ j = 3)) → C2 a j = C a j := fun a j q1 q2 q4 => by
    have z : paC C1 4 15 8 a j = C a j := (if_neg (by omega)).trans (c1 _ _ q1)
    rw [hC2]
    by_cases q5 : a = 1
    · rw [up_k _ _ (by omega), up_k _ _ (by omega)]; exact z
    · rw [up_r _ _ _ _ q5, up_r _ _ _ _ q5]; exact z
  have l1 : ∀ a j, a ≠ 59 → ¬ (61 ≤ a ∧ a ≤ 64) → ¬ (a = 55 ∧ (j = 13 ∨ j = 4)) → M1.1 a j = M.1 a j := fun a j q1 q2 q3 => by
    rw [hM1]
    by_cases q5 : a = 55
    · rw [sM_k _ _ (by omega), sM_k _ _ (by omega)]; exact m0 a j q1 q2
    · rw [sM_r _ _ _ _ q5, sM_r _ _ _ _ q5]; exact m0 a j q1 q2
  have zp : ∀ p j, p < 8 → 1 ≤ j → j ≤ 5 → C2 (4 + p) j = C (15 + p) j := fun p j hp j1 j2 => by
    rw [hC2, up_r _ _ _ _ (by omega), up_r _ _ _ _ (by omega)]
    refine (if_pos (by omega)).trans ?_
    rw [show 4 + p - 4 + 15 = 15 + p by omega]
    exact c1 _ _ (by omega)
  have a12 : C2 1 2 = C 12 2 := by rw [hC2, up_k _ _ (by decide), up_s]
  have a13 : C2 1 3 = C 12 3 := by rw [hC2, up_s]
  refine ⟨_, _, _, e8, e9, hs, kp, nt, ?_, ?_, ?_, ?_, ?_, ?_, ?_⟩
  · refine ⟨by omega, by rw [a12]; exact k4, by rw [a12, hM1, sM_k _ _ (by decide), sM_s]; exact k5, ?_, ?_, ?_⟩
    · intro d hd
      have := k8 d hd
      unfold ISk IS at *
      have z : C2 2 d = C 13 d := by
        rw [hC2, up_r _ _ _ _ (by decide), up_r _ _ _ _ (by decide)]
        exact (if_neg (by omega)).trans (c2 d hd)
      rw [z, hM1, sM_r _ _ _ _ (by decide), sM_r _ _ _ _ (by decide), baM_r _ _ _ _ (by omega), rowM_1, rowC_in (by omega) (by omega)]
      exact this
    · intro p hp
      rw [hC2, up_r _ _ _ _ (by omega), up_r _ _ _ _ (by omega), show paC C1 4 15 8 (4 + p) 0 = C (4 + p) 0 from (if_neg (by omega)).trans (c1 _ _ (by omega))]
      exact h1.2.2.2.2.1 p hp
    · intro p hp
      have := k9 p hp
      unfold IPk IP at *
      have y : ∀ q, q < 4 → M1.1 (61 + q) p = M.1 70 (8 * q + p) := fun q hq => by
        rw [hM1, sM_r _ _ _ _ (by omega), sM_r _ _ _ _ (by omega)]
        refine (if_pos (by omega)).trans ?_
        rw [show 61 + q - 61 = q by omega, rowM_1, rowC_ne (by omega)]
      have y0 := y 0 (by omega)
      have y1 := y 1 (by omega)
      have y2 := y 2 (by omega)
      have y3 := y 3 (by omega)
      simp only [Nat.mul_zero, Nat.zero_add, Nat.mul_one, Nat.add_zero, show 8 * 2 = 16 from rfl, show 8 * 3 = 24 from rfl, show 61 + 1 = 62 from rfl, show 61 + 2 = 63 from rfl, show 61 + 3 = 64 from rfl] at y0 y1 y2 y3
      simp only [zp p 1 (by omega) (by omega) (by omega), zp p 2 (by omega) (by omega) (by omega), zp p 3 (by omega) (by omega) (by omega), zp p 4 (by omega) (by omega) (by omega), zp p 5 (by omega) (by omega) (by omega), y0, y1, y2, y3, l1 60 p (by omega) (by omega) (by omega)]
      exact this
  · refine Or.inr ⟨by rw [d1 _ _ (by omega) (by omega) (by omega)]; exact k1, kp, Nat.le_refl _, ?_, ?_, ?_, ?_, ?_, ?_⟩
    · rw [d1 _ _ (by omega) (by omega) (by omega)]; exact k4
    · rw [d1 _ _ (by omega) (by omega) (by omega), l1 _ _ (by omega) (by omega) (by omega)]; exact k5
    · rw [d1 _ _ (by omega) (by omega) (by omega), l1 _ _ (by omega) (by omega) (by omega)]; exact k6
    · rw [d1 _ _ (by omega) (by omega) (by omega)]; exact k7
    · intro d hd
      have := k8 d hd
      unfold ISk at *
      rw [d1 _ _ (by omega) (by omega) (by omega), l1 _ _ (by omega) (by omega) (by omega)]
      exact this
    · intro p hp
      have := k9 p hp
      unfold IPk at *
      have dd : ∀ j, C2 (15 + p) j = C (15 + p) j := fun j => d1 _ _ (by omega) (by omega) (by omega)
      have ll : ∀ j, M1.1 70 j = M.1 70 j := fun j => l1 _ _ (by omega) (by omega) (by omega)
      simp only [dd, ll, l1 60 p (by omega) (by omega) (by omega)]
      exact this
  · refine ⟨?_, ?_⟩
    · rw [a13, hM1, sM_s]; exact k6
    · rw [a13]; exact k7
  · exact h4.keep (d1 _ _ (by omega) (by omega) (by omega)) (fun k => d1 _ _ (by omega) (by omega) (by omega)) (l1 _ _ (by omega) (by omega) (by omega)) (fun k => l1 _ _ (by omega) (by omega) (by omega))
  · intro s hs'
    exact (h5 s hs').keep (fun k => d1 _ _ (by omega) (by omega) (by omega)) (fun k => d1 _ _ (by omega) (by omega) (by omega)) (l1 _ _ (by omega) (by omega) (by omega)) (l1 _ _ (by omega) (by omega) (by omega)) (l1 _ _ (by omega) (by omega) (by omega)) (fun i _ => l1 _ _ (by omega) (by omega) (by omega))
  · rw [l1 _ _ (by omega) (by omega) (by omega)]; exact h6
  · exact h7.keep (d1 _ _ (by omega) (by omega) (by omega)) (fun a k q => d1 _ _ (by omega) (by omega) (by omega)) (l1 _ _ (by omega) (by omega) (by omega)) (fun k => l1 _ _ (by omega) (by omega) (by omega)) (fun k => l1 _ _ (by omega) (by omega) (by omega))
