theorem s9_spreads0 {B : wg_C} {np : Nat} {o : Int32} {M : wg_M} (h : IHo np B M) (ho : rg 3 o = true) {s0 : Nat} (hs0 : s0 < 192) : ∃ L, f_X9_spreads NN M (Int32.ofNat s0) o 0 = some L ∧ (∀ a k, a ≠ 65 → L.1 a k = M.1 a k) ∧ Bd (L.1 65) 99999999 ∧ FinS (GP B np o (bkV (M.1 55 14))) (fun _ _ => 1) s0 10000 99999999 (FoR (L.1 65)) := by
  have e0 : lp (fun (q : wg_M × Int32) => f_X9_spreads_l3 NN (Int32.ofNat s0) o 0 q.1 q.2) NN (M, (0 : Int32)) = some (M, 0) := by
    obtain ⟨n, hn⟩ := NN_split 1 (by decide)
    rw [show NN = n + 1 by omega]
    refine lp_inr ?_
    simp only [f_X9_spreads_l3, if_true]
    split <;> rfl
  unfold f_X9_spreads
  rw [e0, bd2_eq]
  exact s9_spread (K := 10000) (w := fun _ _ => 1) ⟨h, ho, rfl, fun p x _ _ => ⟨by rw [if_pos rfl]; rfl, show (10000 * 1 : Nat) ≤ 10000 by decide, show 1 ≤ (10000 * 1 : Nat) by decide⟩, by decide⟩ rfl hs0
/-- what the rule weighs a pane -/
def wC (val : Int32 → Int32 → Int32 → Int32 → Int32 → Int32 → Int32 → Int32) (B : wg_C) (p x : Nat) : Nat := (saysV val B (Int32.ofNat p) (Int32.ofNat (x % 32)) 0).toInt.toNat
theorem wC_t (val : Int32 → Int32 → Int32 → Int32 → Int32 → Int32 → Int32 → Int32) (B : wg_C) (p x : Nat) : (saysV val B (Int32.ofNat p) (Int32.ofNat (x % 32)) 0).toInt = (wC val B p x : Nat) ∧ 1 ≤ wC val B p x ∧ wC val B p x ≤ 99 := by
  have h := says_b val B (Int32.ofNat p) (Int32.ofNat (x % 32)) 0
  rw [if_pos rfl] at h
  unfold wC
  omega
theorem cr_in {S : wg_Sh} {B D : wg_C} {np : Nat} {o : Int32} {t id : Nat} {val : Int32 → Int32 → Int32 → Int32 → Int32 → Int32 → Int32 → Int32} {M : wg_M} {s0 k : Nat} (h : IHo np B M) (ht : TxI S D M t id val) (h4 : (M.1 55 4).toInt = t) (hk : k < np) : ∃ q : wg_M × Int32, lp (fun (q : wg_M × Int32) => f_X9_spreads_l19 NN (Int32.ofNat s0) o 1 (Int32.ofNat k) q.1 q.2) NN (M, (0 : Int32)) = some q ∧ (∀ a j, (a ≠ 66 ∨ j < 32 * k ∨ 32 * k + 32 ≤ j) → (a ≠ 55 ∨ j ≤ 14 ∨ 30 ≤ j) → q.1.1 a j = M.1 a j) ∧ ∀ d, d < 32 → q.1.1 66 (32 * k + d) = saysV val B (Int32.ofNat k) (Int32.ofNat d) 0 := by
  have h8 := h.1
  refine lp_ok (fun q => (∀ a j, (a ≠ 66 ∨ j < 32 * k ∨ 32 * k + 32 ≤ j) → (a ≠ 55 ∨ j ≤ 14 ∨ 30 ≤ j) → q.1.1 a j = M.1 a j) ∧ ∃ d, d ≤ 32 ∧ q.2 = Int32.ofNat d ∧ ∀ e, e < d → q.1.1 66 (32 * k + e) = saysV val B (Int32.ofNat k) (Int32.ofNat e) 0) (fun q => 32 - q.2.toInt.toNat) _ ?_ NN (M, 0) ⟨fun _ _ _ _ => rfl, 0, by omega, rfl, fun e he => absurd he (Nat.not_lt_zero _)⟩ (by have := NN_big; show 32 - _ < NN; omega)
  rintro ⟨M', v⟩ ⟨j1, d, hd, e1, j2⟩
  simp only at j1 e1 j2
  subst e1
  have hμ : ¬ 32 ≤ d → 32 - (Int32.ofNat d + 1).toInt.toNat < 32 - (Int32.ofNat d).toInt.toNat := fun _ => by
    rw [oN_s, oN_t (by omega), oN_t (by omega)]
    omega
  have g0 : (32 : Int32) ≤ Int32.ofNat d ↔ 32 ≤ d := oN_le (show d < 2147483648 by omega) (show 32 < 2147483648 by omega)
  simp only [f_X9_spreads_l19, g0, lt_eq]
  by_cases g : 32 ≤ d
  · right
    rw [if_pos g]
    have : d = 32 := by omega
    subst this
    exact ⟨_, rfl, j1, j2⟩
  · left
    rw [if_neg g]
    have hI : IHo np B M' := h.keep (fun _ _ _ => rfl) (fun a j q q' => j1 a j (by omega) (by omega)) (j1 _ _ (by omega) (by omega))
    have hT : TxI S D M' t id val := ht.keep (fun _ _ _ => rfl) (fun j => j1 _ _ (by omega) (by omega)) (fun j => j1 _ _ (by omega) (by omega))
    obtain ⟨M1, u1, u2⟩ := says9 hI hT (by rw [j1 55 4 (by omega) (by omega)]; exact h4) (p := Int32.ofNat k) (oN_rg hk (by omega)) (Int32.ofNat d) (w := 0) (by decide)
    have e66 : (32 : Int32) * Int32.ofNat k + Int32.ofNat d = Int32.ofNat (32 * k + d) := by
      have := oN_66 (k := k) (x := d) (by omega)
      rwa [show d % 32 = d by omega] at this
    rw [u1, bd2_eq, e66, ck_pos (oN_inb (show 32 * k + d < 256 by omega) (by decide)), oN_cl (show 32 * k + d < 2147483648 by omega)]
    refine ⟨_, rfl, ⟨fun a j q q' => ?_, d + 1, by omega, oN_s d, fun e he => ?_⟩, hμ g⟩
    · show (wg_sM M1 66 (32 * k + d) _).1 a j = _
      by_cases y : a = 66
      · rw [sM_k _ _ (by omega), u2 a j (by omega)]
        exact j1 a j q q'
      · rw [sM_r _ _ _ _ y, u2 a j q']
        exact j1 a j q q'
    · show (wg_sM M1 66 (32 * k + d) _).1 66 (32 * k + e) = _
      by_cases y : e = d
      · subst y
        rw [sM_s]
      · rw [sM_k _ _ (by omega), u2 _ _ (by omega)]
        exact j2 e (by omega)
theorem cr_all {S : wg_Sh} {B D : wg_C} {np : Nat} {o : Int32} {t id : Nat} {val : Int32 → Int32 → Int32 → Int32 → Int32 → Int32 → Int32 → Int32} {M : wg_M} {s0 : Nat} (h : IHo np B M) (ht : TxI S D M t id val) (h4 : (M.1 55 4).toInt = t) : ∃ q : wg_M × Int32, lp (fun (q : wg_M × Int32) => f_X9_spreads_l3 NN (Int32.ofNat s0) o 1 q.1 q.2) NN (M, (0 : Int32)) = some q ∧ (∀ a j, a ≠ 66 → (a ≠ 55 ∨ j ≤ 14 ∨ 30 ≤ j) → q.1.1 a j = M.1 a j) ∧ ∀ p d, p < np → d < 32 → q.1.1 66 (32 * p + d) = saysV val B (Int32.ofNat p) (Int32.ofNat d) 0 := by
  have h8 := h.1
  refine lp_ok (fun q => (∀ a j, a ≠ 66 → (a ≠ 55 ∨ j ≤ 14 ∨ 30 ≤ j) → q.1.1 a j = M.1 a j) ∧ ∃ k, k ≤ np ∧ q.2 = Int32.ofNat k ∧ ∀ p d, p < k → d < 32 → q.1.1 66 (32 * p + d) = saysV val B (Int32.ofNat p) (Int32.ofNat d) 0) (fun q => np - q.2.toInt.toNat) _ ?_ NN (M, 0) ⟨fun _ _ _ _ => rfl, 0, by omega, rfl, fun p d hp => absurd hp (Nat.not_lt_zero _)⟩ (by have := NN_big; show np - _ < NN; omega)
  rintro ⟨M', v⟩ ⟨j1, k, hk, e1, j2⟩
  simp only at j1 e1 j2
  subst e1
  have hI : IHo np B M' := h.keep (fun _ _ _ => rfl) (fun a j q q' => j1 a j (by omega) (by omega)) (j1 _ _ (by omega) (by omega))
  have hT : TxI S D M' t id val := ht.keep (fun _ _ _ => rfl) (fun j => j1 _ _ (by omega) (by omega)) (fun j => j1 _ _ (by omega) (by omega))
  have hn : M'.1 55 13 = Int32.ofNat np := by rw [hI.2.2.1]; exact oN_eq hI.2.1
  simp only [f_X9_spreads_l3, hn, oN_le (show k < 2147483648 by omega) (show np < 2147483648 by omega), show ¬ (1 : Int32) = 0 by decide, if_false, lt_eq]
  by_cases g : np ≤ k
  · right
    rw [if_pos g]
    have : k = np := by omega
    subst this
    exact ⟨_, rfl, j1, j2⟩
  · left
    rw [if_neg g]
    obtain ⟨⟨M2, z⟩, u1, u2, u3⟩ := cr_in (s0 := s0) (o := o) hI hT (by rw [j1 55 4 (by omega) (by omega)]; exact h4) (show k < np by omega)
    simp only at u2 u3
    rw [u1, bd2_eq]
    refine ⟨_, rfl, ⟨fun a j q q' => (u2 a j (Or.inl q) q').trans (j1 a j q q'), k + 1, by omega, oN_s k, fun p d hp hd => ?_⟩, ?_⟩
    · show M2.1 66 (32 * p + d) = _
      by_cases e : p = k
      · subst e; exact u3 d hd
      · rw [u2 _ _ (by omega) (by omega)]
        exact j2 p d (by omega) hd
    · show np - (Int32.ofNat k + 1).toInt.toNat < np - (Int32.ofNat k).toInt.toNat
      rw [oN_s, oN_t (by omega), oN_t (by omega)]
      omega
theorem s9_spreads1 {S : wg_Sh} {B D : wg_C} {np : Nat} {o : Int32} {t id : Nat} {val : Int32 → Int32 → Int32 → Int32 → Int32 → Int32 → Int32 → Int32} {M : wg_M} (h : IHo np B M) (ht : TxI S D M t id val) (h4 : (M.1 55 4).toInt = t) (ho : rg 3 o = true) {s0 : Nat} (hs0 : s0 < 192) : ∃ L, f_X9_spreads NN M (Int32.ofNat s0) o 1 = some L ∧ (∀ a k, a ≠ 65 → a ≠ 66 → (a ≠ 55 ∨ k ≤ 14 ∨ 30 ≤ k) → L.1 a k = M.1 a k) ∧ Bd (L.1 65) 99999999 ∧ FinS (GP B np o (bkV (M.1 55 14))) (wC val B) s0 1 99999999 (FoR (L.1 65)) := by
  obtain ⟨⟨M', z⟩, u1, u2, u3⟩ := cr_all (s0 := s0) (o := o) h ht h4
  simp only at u2 u3
  have hI : IHo np B M' := h.keep (fun _ _ _ => rfl) (fun a j q q' => u2 a j (by omega) (by omega)) (u2 _ _ (by omega) (by omega))
  unfold f_X9_spreads
  rw [u1, bd2_eq]
  obtain ⟨L, v1, v2, v3, v4⟩ := s9_spread (K := 1) (w := wC val B) (x3 := 1) (s := M.1 55 14) ⟨hI, ho, u2 _ _ (by omega) (by omega), fun p x hp hx => by
    have := wC_t val B p x
    rw [if_neg (by decide), u3 p _ hp (by omega), Nat.one_mul]
    exact ⟨this.1, by omega, by omega⟩, by omega⟩ rfl hs0
  exact ⟨L, v1, fun a k q q' q'' => (v2 a k q).trans (u2 a k q' q''), v3, v4⟩
