theorem nar_b {v : Int32} (h : -1 ≤ v.toInt ∧ v.toInt ≤ 9) : v.toInt8.toInt32 = v := by
  rw [i_eq, Int8.toInt_toInt32, Int32.toInt_toInt8]
  have : v.toInt.bmod (2 ^ 8) = (v.toInt + 128) % 256 - 128 := by grind
  rw [this]
  omega
theorem show_congr {C D : wg_C} {q : Nat} (h2 : ∀ k, D 2 k = C 2 k) (hq : ∀ k, D q k = C q k) (d : Int32) : showV D q d = showV C q d := by
  unfold showV passP onP
  simp only [h2, hq]
theorem s8_film {np : Nat} {C D : wg_C} {M : wg_M} (h : IHo np C M) {s p d : Int32} (hs : rg 4 s = true) (hp : rg np p = true) {m : Nat} (hm : m ≤ 10) (hD : ∀ a k, a ≤ 11 → D a k = C a k) (ho : D (44 + 2 * s.toNatClampNeg) 1 = 0) : lp (fun o => f_X8_film_l59 NN p d (Int32.ofNat m) (44 + 2 * s.toNatClampNeg) o.1 o.2) NN (D, (0 : Int32)) = some (rowC D (44 + 2 * s.toNatClampNeg + 1) 0 m (fun i => showV C (4 + p.toNatClampNeg) (d + Int32.ofNat i)), Int32.ofNat m) := by
  have hl := cl_lt hs
  have hpl := cl_lt hp
  have h8 := h.1
  have := lp_to (b := fun o => f_X8_film_l59 NN p d (Int32.ofNat m) (44 + 2 * s.toNatClampNeg) o.1 o.2) (fun k => ((rowC D (44 + 2 * s.toNatClampNeg + 1) 0 k (fun i => showV C (4 + p.toNatClampNeg) (d + Int32.ofNat i)) : wg_C), Int32.ofNat k)) m (rowC D (44 + 2 * s.toNatClampNeg + 1) 0 m (fun i => showV C (4 + p.toNatClampNeg) (d + Int32.ofNat i)), Int32.ofNat m) (fun k hk => by
    have e1 : ∀ a j, a ≤ 11 → rowC D (44 + 2 * s.toNatClampNeg + 1) 0 k (fun i => showV C (4 + p.toNatClampNeg) (d + Int32.ofNat i)) a j = C a j := fun a j q => by rw [rowC_ne (by omega)]; exact hD a j q
    simp only [f_X8_film_l59, oN_le (show k < 2147483648 by omega) (show m < 2147483648 by omega), Nat.not_le.mpr hk, if_false, ck_pos (h.in8 hp)]
    rw [s8_shows _ _ _ (by rw [e1 _ _ (by omega)]; exact h.pn hp), bd_eq, s8_put _ _ _ _ (oN_inb (show k < 40 by omega) (by omega)), bd_eq]
    rw [rowC_ne (show 44 + 2 * s.toNatClampNeg ≠ 44 + 2 * s.toNatClampNeg + 1 by omega), ho, show_congr (fun j => e1 2 j (by omega)) (fun j => e1 (4 + p.toNatClampNeg) j (by omega))]
    simp only [lt_eq, oN_s, oN_cl (show k < 2147483648 by omega)]
    rw [show narV 0 (showV C (4 + p.toNatClampNeg) (d + Int32.ofNat k)) = showV C (4 + p.toNatClampNeg) (d + Int32.ofNat k) from nar_b (show_rg h _ _)]
    rw [← rowC_s, Nat.zero_add]) (by
    simp only [f_X8_film_l59]
    rw [if_pos ((oN_le (by omega) (by omega)).mpr (Nat.le_refl _))]) NN (by have := NN_big; omega)
  rw [rowC_0] at this
  exact this
theorem s9_film {np : Nat} {C : wg_C} {M L : wg_M} (h : IHo np C M) {s p d : Int32} (hs : rg 4 s = true) (hp : rg np p = true) {m : Nat} (hm : m ≤ 10) (hL : ∀ a k, a ≤ 64 → L.1 a k = M.1 a k) : lp (fun o => f_X9_film_l50 NN s p d (Int32.ofNat m) o.1 o.2) NN (L, (0 : Int32)) = some (rowM L 74 (40 * s.toNatClampNeg) m (fun j => showV C (4 + p.toNatClampNeg) (d + Int32.ofNat (j - 40 * s.toNatClampNeg))), Int32.ofNat m) := by
  have := lp_to (b := fun o => f_X9_film_l50 NN s p d (Int32.ofNat m) o.1 o.2) (fun k => (rowM L 74 (40 * s.toNatClampNeg) k (fun j => showV C (4 + p.toNatClampNeg) (d + Int32.ofNat (j - 40 * s.toNatClampNeg))), Int32.ofNat k)) m (rowM L 74 (40 * s.toNatClampNeg) m (fun j => showV C (4 + p.toNatClampNeg) (d + Int32.ofNat (j - 40 * s.toNatClampNeg))), Int32.ofNat m) (fun k hk => by
    obtain ⟨e1, e2⟩ := p40 (n := 40) hs (oN_rg (show k < 40 by omega) (by omega)) (Nat.le_refl _)
    have hI : IHo np C (rowM L 74 (40 * s.toNatClampNeg) k (fun j => showV C (4 + p.toNatClampNeg) (d + Int32.ofNat (j - 40 * s.toNatClampNeg)))) := h.keep (fun a k q => rfl) (fun a j q q' => by rw [rowM_1, rowC_ne (by omega)]; exact hL a j (by omega)) (by rw [rowM_1, rowC_ne (by omega)]; exact hL _ _ (by omega))
    simp only [f_X9_film_l50, oN_le (show k < 2147483648 by omega) (show m < 2147483648 by omega), Nat.not_le.mpr hk, if_false]
    rw [s9_shows hI hp, bd_eq]
    simp only [ck_pos e1, lt_eq, e2, oN_cl (show k < 2147483648 by omega), oN_s]
    rw [← rowM_s]
    simp only [Nat.add_sub_cancel_left]) (by
    simp only [f_X9_film_l50]
    rw [if_pos ((oN_le (by omega) (by omega)).mpr (Nat.le_refl _))]) NN (by have := NN_big; omega)
  rw [rowM_0] at this
  exact this
