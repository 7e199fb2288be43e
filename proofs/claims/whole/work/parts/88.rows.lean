/-- n cells of row a, from lo on, are told by f -/
def rowC (C : Nat → Nat → Int32) (a lo n : Nat) (f : Nat → Int32) : Nat → Nat → Int32 := fun b j => if b = a ∧ lo ≤ j ∧ j < lo + n then f j else C b j
def rowM (M : wg_M) (a lo n : Nat) (f : Nat → Int32) : wg_M := (rowC M.1 a lo n f, M.2)
theorem rowC_0 (C : Nat → Nat → Int32) (a lo : Nat) (f : Nat → Int32) : rowC C a lo 0 f = C := by
  funext b j
  unfold rowC
  rw [if_neg (by omega)]
theorem rowM_0 (M : wg_M) (a lo : Nat) (f : Nat → Int32) : rowM M a lo 0 f = M := by unfold rowM; rw [rowC_0]
theorem rowC_s (C : Nat → Nat → Int32) (a lo k : Nat) (f : Nat → Int32) : wg_up (rowC C a lo k f) a (lo + k) (f (lo + k)) = rowC C a lo (k + 1) f := by
  funext b j
  unfold wg_up rowC
  by_cases h1 : b = a
  · by_cases h2 : j = lo + k
    · rw [if_pos h1, if_pos h2, if_pos ⟨h1, by omega, by omega⟩, h2]
    · rw [if_pos h1, if_neg h2]
      by_cases h3 : lo ≤ j ∧ j < lo + k
      · rw [if_pos ⟨h1, h3⟩, if_pos ⟨h1, by omega, by omega⟩]
      · rw [if_neg (fun e => h3 e.2), if_neg (fun e => h3 (by omega))]
  · rw [if_neg h1, if_neg (fun e => h1 e.1), if_neg (fun e => h1 e.1)]
theorem rowM_s (M : wg_M) (a lo k : Nat) (f : Nat → Int32) : wg_sM (rowM M a lo k f) a (lo + k) (f (lo + k)) = rowM M a lo (k + 1) f := by
  unfold wg_sM rowM
  rw [rowC_s]
theorem rowC_in {C : Nat → Nat → Int32} {a lo n : Nat} {f : Nat → Int32} {j : Nat} (h1 : lo ≤ j) (h2 : j < lo + n) : rowC C a lo n f a j = f j := if_pos ⟨rfl, h1, h2⟩
theorem rowC_ne {C : Nat → Nat → Int32} {a lo n : Nat} {f : Nat → Int32} {b j : Nat} (h : b ≠ a) : rowC C a lo n f b j = C b j := if_neg fun e => h e.1
theorem rowC_out {C : Nat → Nat → Int32} {a lo n : Nat} {f : Nat → Int32} {b j : Nat} (h : j < lo ∨ lo + n ≤ j) : rowC C a lo n f b j = C b j := if_neg fun e => by omega
theorem rowM_1 (M : wg_M) (a lo n : Nat) (f : Nat → Int32) : (rowM M a lo n f).1 = rowC M.1 a lo n f := rfl
theorem s8_fill (C : wg_C) (a n : Nat) (v : Int32) (hn : n ≤ 1000) : f_J7_fill_53178 NN C a n v = some (rowC C a 0 n (fun _ => v)) := by
  unfold f_J7_fill_53178
  have e : lp (fun o => f_J7_fill_53178_l5 NN a n v (Int32.ofNat n) o.1 o.2) NN (C, (0 : Int32)) = some (rowC C a 0 n (fun _ => v), Int32.ofNat n) := by
    have := lp_to (b := fun o => f_J7_fill_53178_l5 NN a n v (Int32.ofNat n) o.1 o.2) (fun k => ((rowC C a 0 k (fun _ => v) : wg_C), Int32.ofNat k)) n (rowC C a 0 n (fun _ => v), Int32.ofNat n) (fun k hk => by
      simp only [f_J7_fill_53178_l5, oN_le (show k < 2147483648 by omega) (show n < 2147483648 by omega), Nat.not_le.mpr hk, if_false, ck_pos (oN_inb hk (by omega)), lt_eq, oN_cl (show k < 2147483648 by omega), oN_s]
      rw [← rowC_s, Nat.zero_add]) (by
      simp only [f_J7_fill_53178_l5]
      rw [if_pos ((oN_le (by omega) (by omega)).mpr (Nat.le_refl _))]) NN (by have := NN_big; omega)
    rw [rowC_0] at this
    exact this
  simp only [lt_eq]
  rw [e]
  rfl
theorem s8_sbec (C : wg_C) (q : Nat) (o n : Int32) : f_X4_become NN C q o n = some (wg_up (wg_up (rowC C (q + 1) 0 40 (fun _ => 0)) q 1 o) q 2 n) := by
  unfold f_X4_become
  rw [s8_fill C (q + 1) 40 0 (by omega)]
  rfl
