/-- two loops side by side -/
theorem lp_rel {σ τ ρ π : Type} {b : σ → Option (σ ⊕ ρ)} {c : τ → Option (τ ⊕ π)} (I : σ → τ → Prop) (μ : σ → Nat) (P : ρ → π → Prop) (h : ∀ x y, I x y → (∃ x' y', b x = some (.inl x') ∧ c y = some (.inl y') ∧ I x' y' ∧ μ x' < μ x) ∨ ∃ r q, b x = some (.inr r) ∧ c y = some (.inr q) ∧ P r q) : ∀ (N K : Nat) (x : σ) (y : τ), I x y → μ x < N → μ x < K → ∃ r q, lp b N x = some r ∧ lp c K y = some q ∧ P r q := by
  intro N
  induction N with
  | zero => intro K x y _ h; exact absurd h (Nat.not_lt_zero _)
  | succ N ih =>
    intro K x y hx hN hK
    obtain ⟨K, rfl⟩ : ∃ k, K = k + 1 := ⟨K - 1, by omega⟩
    rcases h x y hx with ⟨x', y', h1, h2, h3, h4⟩ | ⟨r, q, h1, h2, h3⟩
    · obtain ⟨r, q, e1, e2, e3⟩ := ih K x' y' h3 (by omega) (by omega)
      exact ⟨r, q, by rw [lp_inl h1]; exact e1, by rw [lp_inl h2]; exact e2, e3⟩
    · exact ⟨r, q, lp_inr h1, lp_inr h2, h3⟩
theorem set_neg {np : Nat} {C : wg_C} {M : wg_M} (h : IHo np C M) {p v : Int32} : (setOk np 0 p v = true → ¬ toldV np C p 0 = -100 ∧ ¬ toldV np C p 0 < 0) := by
  intro ho
  have e := (setOk_iff.mp ho).1.2
  rw [okP0] at e
  have := (h.2.2.2.1 _ (cl_lt e)).2
  have ev : toldV np C p 0 = C 2 p.toNatClampNeg := by unfold toldV; rw [if_pos rfl, if_pos e]
  rw [ev, m100, i_lt, Int32.toInt_zero]
  omega
