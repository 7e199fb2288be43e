/-- a pane of the class at cell q -/
def onP (C : wg_C) (q : Nat) (d : Int32) : Int32 := onV (C q 1) (C q 2) (C q 3) d
def passP (C : wg_C) (q : Nat) (d o : Int32) : Bool := passV (C q 1) (C q 2) (C q 3) d o
def leadP (C : wg_C) (q : Nat) : Int32 := leadV (C q 1) (C q 4) (C q 5)
theorem p8_on (C : wg_C) (q : Nat) (d : Int32) : f_X1_on C q d = some (onP C q d) := s8_on C q d
theorem p8_leads (C : wg_C) (q : Nat) : f_X1_leads C q = some (leadP C q) := s8_leads C q
theorem IHo.pn {np : Nat} {C : wg_C} {M : wg_M} (h : IHo np C M) {p : Int32} (hp : rg np p = true) : 0 ≤ (C (4 + p.toNatClampNeg) 2).toInt ∧ (C (4 + p.toNatClampNeg) 2).toInt ≤ 9 := (h.2.2.2.2.2 _ (cl_lt hp)).2.2.2.2.2.2.1
theorem IHo.in8 {np : Nat} {C : wg_C} {M : wg_M} (h : IHo np C M) {p : Int32} (hp : rg np p = true) : inb p 8 := inb_of hp h.1
theorem p8_pass {np : Nat} {C : wg_C} {M : wg_M} (h : IHo np C M) {p : Int32} (hp : rg np p = true) (d o : Int32) : f_X1_passes C (4 + p.toNatClampNeg) d o = some (bI (passP C (4 + p.toNatClampNeg) d o = true)) := s8_passes C _ d o (h.pn hp)
theorem p9_on {np : Nat} {C : wg_C} {M : wg_M} (h : IHo np C M) {p : Int32} (hp : rg np p = true) (d : Int32) : f_X9_on M p d = some (onP C (4 + p.toNatClampNeg) d) := by
  obtain ⟨k1, k2, k3, k4, k5, k6⟩ := h.2.2.2.2.2 _ (cl_lt hp)
  rw [s9_on M p d (h.in8 hp), k1, k2, k3]
  rfl
theorem p9_leads {np : Nat} {C : wg_C} {M : wg_M} (h : IHo np C M) {p : Int32} (hp : rg np p = true) : f_X9_leads M p = some (leadP C (4 + p.toNatClampNeg)) := by
  obtain ⟨k1, k2, k3, k4, k5, k6⟩ := h.2.2.2.2.2 _ (cl_lt hp)
  rw [s9_leads M p (h.in8 hp), k1, k4, k5]
  rfl
theorem p9_pass {np : Nat} {C : wg_C} {M : wg_M} (h : IHo np C M) {p : Int32} (hp : rg np p = true) (d o : Int32) (ho : rg 3 o = true) : f_X9_passes M p d o = some (bI (passP C (4 + p.toNatClampNeg) d o = true)) := by
  obtain ⟨k1, k2, k3, k4, k5, k6⟩ := h.2.2.2.2.2 _ (cl_lt hp)
  rw [s9_passes M p d o (h.in8 hp) (by rw [k1]; exact k6.1) (by rw [k2]; exact k6.2.1) ((rg_iff 3 o).mp ho), k1, k2, k3]
  rfl
theorem p9_isPane {np : Nat} {C : wg_C} {M : wg_M} (h : IHo np C M) (p : Int32) : f_X9_isPane M p = some (bI (rg np p = true)) := s9_isPane M np h.1 (by rw [h.2.2.1]; exact h.2.1) p
theorem p8_has {np : Nat} {C : wg_C} {M : wg_M} (h : IHo np C M) (p : Int32) : f_X0_has C p = some (bI (rg np p = true)) := s8_has C np h.2.1 p
theorem if_bI {α : Type} (c : Prop) [Decidable c] (x y : α) : (if bI c = 0 then x else y) = if c then y else x := by
  by_cases h : c <;> simp [h, bI]
def givesV (np : Nat) (C : wg_C) (p d o : Int32) : Int32 := if rg np p = true ∧ rg 32 d = true ∧ (o = -1 ∨ rg 3 o = true) then (if o = -1 then onP C (4 + p.toNatClampNeg) d else bI (passP C (4 + p.toNatClampNeg) d o = true)) else -1000
theorem s8_gives {np : Nat} {C : wg_C} {M : wg_M} (h : IHo np C M) (p d o : Int32) : f_X8_gives C p d o = some (givesV np C p d o) := by
  unfold f_X8_gives f_X8_gives_j34 givesV
  simp only [p8_has h, s8_isDay, s8_isSort, bd_eq, if_bI]
  by_cases hp : rg np p = true
  · simp only [p8_on, p8_pass h hp, ck_pos (h.in8 hp), bd_eq, if_bI, hp, true_and, if_true]
    by_cases hd : rg 32 d = true
    · by_cases ho : o = -1
      · simp only [hd, ho, true_and, true_or, if_true]
      · by_cases hs : rg 3 o = true
        · simp only [hd, ho, hs, true_and, or_true, if_true, if_false]
          unfold bI
          split <;> rfl
        · simp only [hd, ho, hs, true_and, or_self, if_true, if_false]; rfl
    · simp only [hd, false_and, if_false]; rfl
  · simp only [hp, false_and, if_false]; rfl
theorem s9_gives {np : Nat} {C : wg_C} {M : wg_M} (h : IHo np C M) (p d o : Int32) : f_X9_gives M p d o = some (givesV np C p d o) := by
  unfold f_X9_gives f_X9_gives_j31 givesV
  simp only [p9_isPane h, s9_isDay, s9_isSort, bd_eq, if_bI]
  by_cases hp : rg np p = true
  · simp only [p9_on h hp, bd_eq, hp, true_and, if_true]
    by_cases hd : rg 32 d = true
    · by_cases ho : o = -1
      · simp only [hd, ho, true_and, true_or, if_true]
      · by_cases hs : rg 3 o = true
        · simp only [p9_pass h hp d o hs, bd_eq, if_bI, hd, ho, hs, true_and, or_true, if_true, if_false]
          unfold bI
          split <;> rfl
        · simp only [hd, ho, hs, true_and, or_self, if_true, if_false]; rfl
    · simp only [hd, false_and, if_false]; rfl
  · simp only [hp, false_and, if_false]; rfl
theorem h_gives : H_gives wInv := by
  intro S C M h hw a1 a2 a3
  obtain ⟨hs, np, nt, h1, h2, h3, h4, h5, h6, h7⟩ := id h
  exact ⟨_, s8_gives h1 a1 a2 a3, s9_gives h1 a1 a2 a3, trivial⟩
/-- a loop that goes through states 0 .. n -/
theorem lp_to {σ ρ : Type} {b : σ → Option (σ ⊕ ρ)} (st : Nat → σ) (n : Nat) (r : ρ) (h : ∀ k, k < n → b (st k) = some (.inl (st (k + 1)))) (hr : b (st n) = some (.inr r)) (N : Nat) (hN : n < N) : lp b N (st 0) = some r := by
  have key : ∀ j k N, k + j = n → j < N → lp b N (st k) = some r := by
    intro j
    induction j with
    | zero =>
      intro k N hk hN
      obtain ⟨N, rfl⟩ : ∃ m, N = m + 1 := ⟨N - 1, by omega⟩
      have : k = n := by omega
      rw [this]
      exact lp_inr hr
    | succ j ih =>
      intro k N hk hN
      obtain ⟨N, rfl⟩ : ∃ m, N = m + 1 := ⟨N - 1, by omega⟩
      rw [lp_inl (h k (by omega))]
      exact ih (k + 1) N (by omega) (by omega)
  exact key n 0 N (by omega) hN
theorem lp_ok {σ ρ : Type} {b : σ → Option (σ ⊕ ρ)} (I : σ → Prop) (μ : σ → Nat) (P : ρ → Prop) (h : ∀ x, I x → (∃ y, b x = some (.inl y) ∧ I y ∧ μ y < μ x) ∨ ∃ r, b x = some (.inr r) ∧ P r) : ∀ (N : Nat) (x : σ), I x → μ x < N → ∃ r, lp b N x = some r ∧ P r := by
  intro N
  induction N with
  | zero => intro x _ h; exact absurd h (Nat.not_lt_zero _)
  | succ N ih =>
    intro x hx hN
    rcases h x hx with ⟨y, h1, h2, h3⟩ | ⟨r, h1, h2⟩
    · obtain ⟨r, q1, q2⟩ := ih y h2 (by omega)
      exact ⟨r, by rw [lp_inl h1]; exact q1, q2⟩
    · exact ⟨r, lp_inr h1, h2⟩
