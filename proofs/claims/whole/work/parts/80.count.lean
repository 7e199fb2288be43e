theorem oN_t {k : Nat} (h : k < 2147483648) : (Int32.ofNat k).toInt = k := Int32.toInt_ofNat_of_lt h
theorem oN_cl {k : Nat} (h : k < 2147483648) : (Int32.ofNat k).toNatClampNeg = k := by rw [i_cl, oN_t h]; omega
theorem oN_s (k : Nat) : Int32.ofNat k + 1 = Int32.ofNat (k + 1) := (Int32.ofNat_add k 1).symm
theorem oN_inb {k n : Nat} (h : k < n) (hn : n < 2147483648) : inb (Int32.ofNat k) n := by
  rw [i_inb, oN_t (by omega)]
  omega
theorem oN_le {k n : Nat} (h : k < 2147483648) (hn : n < 2147483648) : Int32.ofNat n ≤ Int32.ofNat k ↔ n ≤ k := by
  rw [i_le, oN_t h, oN_t hn]
  omega
theorem oN_lt {k n : Nat} (h : k < 2147483648) (hn : n < 2147483648) : Int32.ofNat n < Int32.ofNat k ↔ n < k := by
  rw [i_lt, oN_t h, oN_t hn]
  omega
theorem oN_eq {x : Int32} {n : Nat} (h : x.toInt = n) : x = Int32.ofNat n := by
  have := i_up x
  rw [i_eq, oN_t (by omega)]
  exact h
theorem rg_oN {n : Nat} {p : Int32} (h : rg n p = true) : ∃ k, k < n ∧ p = Int32.ofNat k := by
  rw [rg_iff] at h
  exact ⟨p.toInt.toNat, by omega, oN_eq (by omega)⟩
theorem oN_rg {k n : Nat} (h : k < n) (hn : n < 2147483648) : rg n (Int32.ofNat k) = true := by
  rw [rg_iff, oN_t (by omega)]
  omega
def sumV (f : Nat → Int32) : Nat → Int32
  | 0 => 0
  | k + 1 => sumV f k + f k
theorem sumV_congr {f g : Nat → Int32} : ∀ {n : Nat}, (∀ k, k < n → f k = g k) → sumV f n = sumV g n
  | 0, _ => rfl
  | n + 1, h => by
    unfold sumV
    rw [sumV_congr (fun k hk => h k (by omega)), h n (by omega)]
theorem NN_big : 1000000 < NN := by decide
theorem s8_sum (C : wg_C) : f_X0_weatherTogether NN C = some (sumV (C 2) 32) := by
  unfold f_X0_weatherTogether
  have e : lp (fun o => f_X0_weatherTogether_l4 NN C o.1 o.2) NN ((0 : Int32), (0 : Int32)) = some (sumV (C 2) 32, 32) := lp_to (fun k => (sumV (C 2) k, Int32.ofNat k)) 32 (sumV (C 2) 32, 32) (fun k hk => by
    simp only [f_X0_weatherTogether_l4, show (32 : Int32) = Int32.ofNat 32 from rfl, oN_le (show k < 2147483648 by omega) (show 32 < 2147483648 by omega), Nat.not_le.mpr hk, if_false, ck_pos (oN_inb hk (by omega)), lt_eq, oN_cl (show k < 2147483648 by omega), oN_s]
    rfl) (by rfl) NN (by have := NN_big; omega)
  rw [e]
  rfl
theorem s9_sum (M : wg_M) : lp (fun o => f_X9_count_l64 NN M o.1 o.2) NN ((0 : Int32), (0 : Int32)) = some (sumV (M.1 59) 32, 32) := lp_to (fun k => (sumV (M.1 59) k, Int32.ofNat k)) 32 (sumV (M.1 59) 32, 32) (fun k hk => by
    simp only [f_X9_count_l64, show (32 : Int32) = Int32.ofNat 32 from rfl, oN_le (show k < 2147483648 by omega) (show 32 < 2147483648 by omega), Nat.not_le.mpr hk, if_false, ck_pos (oN_inb hk (by omega)), lt_eq, oN_cl (show k < 2147483648 by omega), oN_s]
    rfl) (by rfl) NN (by have := NN_big; omega)
theorem w04 (w : Int32) : rg 5 w = true ↔ (w = 0 ∨ w = 1 ∨ w = 2 ∨ w = 3 ∨ w = 4) := by
  rw [rg_iff]
  simp only [i_eq]
  show (0 : Int) ≤ _ ∧ _ < (5 : Int) ↔ _ = (0 : Int) ∨ _ = (1 : Int) ∨ _ = (2 : Int) ∨ _ = (3 : Int) ∨ _ = (4 : Int)
  omega
theorem h_count : H_count wInv := by
  intro S C M h hw w
  obtain ⟨hs, np, nt, h1, h2, h3, ⟨tn, h4, h4a, h4b, h4c⟩, h5, h6, h7⟩ := id h
  refine ⟨if w = 0 then C 1 2 else if w = 1 then C 31 1 else if w = 2 then C 23 1 else if w = 3 then C 1 3 else if w = 4 then sumV (C 2) 32 else -2, ?_, ?_, trivial⟩
  · unfold f_X8_count
    simp only [s8_sum, bd_eq]
    repeat' split
    all_goals rfl
  · unfold f_X9_count
    simp only [s_inr w 4 5 rfl, bd_eq, if_bI, w04, s9_sum, bd2_eq, h1.2.2.1, h7.2.2.1, h4b, h3.1]
    rw [sumV_congr (g := C 2) (fun k hk => (h1.2.2.2.1 k hk).1)]
    by_cases w0 : w = 0
    · subst w0; rfl
    by_cases w1 : w = 1
    · subst w1; rfl
    by_cases w2 : w = 2
    · subst w2; rfl
    by_cases w3 : w = 3
    · subst w3; rfl
    by_cases w4 : w = 4
    · subst w4; rfl
    simp only [w0, w1, w2, w3, w4, or_self, if_false]
/-- one kind is under another one -/
theorem k_all {P : Int32 → Prop} (h0 : P 0) (h1 : P 1) (h2 : P 2) (h3 : P 3) (h4 : P 4) (h5 : P 5) {k : Int32} (hk : rg 6 k = true) : P k := by
  obtain ⟨n, hn, rfl⟩ := rg_oN hk
  have : n = 0 ∨ n = 1 ∨ n = 2 ∨ n = 3 ∨ n = 4 ∨ n = 5 := by omega
  rcases this with rfl | rfl | rfl | rfl | rfl | rfl
  · exact h0
  · exact h1
  · exact h2
  · exact h3
  · exact h4
  · exact h5
def upK (k a : Int32) : Bool := (k == a) || (if k = 0 then false else if k = 3 then (a == 1) || (a == 0) else if k = 4 then (a == 2) || (a == 0) else a == 0)
theorem lpN {σ ρ : Type} {b : σ → Option (σ ⊕ ρ)} {x : σ} {r : ρ} (m : Nat) (h : lp b m x = some r) : ∀ n, lp b (m + n) x = some r := by
  intro n
  induction m generalizing x with
  | zero => exact absurd h (by simp [lp])
  | succ m ih =>
    rw [show m + 1 + n = (m + n) + 1 by omega]
    cases hb : b x with
    | none => rw [lp, hb] at h; cases h
    | some o =>
      cases o with
      | inl y => rw [lp_inl hb] at h ⊢; exact ih h
      | inr y => rw [lp_inr hb] at h ⊢; exact h
theorem NN_split (m : Nat) (h : m ≤ 1000000) : ∃ n, NN = m + n := ⟨NN - m, by have := NN_big; omega⟩
theorem s8_under (N : Nat) (C : wg_C) {k a : Int32} (hk : rg 6 k = true) (ha : rg 6 a = true) : f_X8_isUnder (8 + N) C k a = some (bI (upK k a = true)) := by
  revert ha
  refine k_all (P := fun k => rg 6 a = true → f_X8_isUnder (8 + N) C k a = some (bI (upK k a = true))) ?_ ?_ ?_ ?_ ?_ ?_ hk <;> intro ha
  all_goals
    refine k_all (P := fun a => f_X8_isUnder (8 + N) C _ a = some (bI (upK _ a = true))) ?_ ?_ ?_ ?_ ?_ ?_ ha
    all_goals
      unfold f_X8_isUnder
      first
        | (rw [lpN (r := .inr 1) 8 (by rfl)]; rfl)
        | (rw [lpN (r := .inl (-1, 1)) 8 (by rfl)]; rfl)
        | (rw [lpN (r := .inl (-1, 2)) 8 (by rfl)]; rfl)
        | (rw [lpN (r := .inl (-1, 3)) 8 (by rfl)]; rfl)
