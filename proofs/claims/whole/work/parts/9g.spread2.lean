/-- from x nothing goes on -/
def ClsX (P : Nat → Nat → Nat → Prop) (w : Nat → Nat → Nat) (K : Nat) (F : Nat → Nat) (x : Nat) : Prop := (x % 32 + 1 < 32 → F (x + 1) ≤ F x + 1) ∧ ∀ p y, P p x y → F y ≤ F x + K * w p x
theorem s9_goesOn {B : wg_C} {np : Nat} {o x3 s : Int32} {w : Nat → Nat → Nat} {s0 K R : Nat} {M : wg_M} (h : SpI B np o x3 s w K R M) {x : Nat} (hx : x < 192) {M1 : wg_M} (h1 : GoI (GP B np o (bkV s)) w s0 K R M M1) (hr : FoR (M1.1 65) x < R) : ∃ r M2, f_X9_goesOn NN M1 (Int32.ofNat x) o x3 = some (r, M2) ∧ GoI (GP B np o (bkV s)) w s0 K R M M2 ∧ ((r = 0 ∧ M2 = M1 ∧ ClsX (GP B np o (bkV s)) w K (FoR (M1.1 65)) x) ∨ (r = 1 ∧ sumN (FoR (M2.1 65)) 192 < sumN (FoR (M1.1 65)) 192)) := by
  have hR := h.2.2.2.2
  obtain ⟨e1, e2⟩ := oN_32 hx
  unfold f_X9_goesOn
  simp only [lt_eq, e2]
  rw [e1]
  have g0 : (31 : Int32) ≤ Int32.ofNat (x % 32) ↔ ¬ x % 32 + 1 < 32 := by
    rw [i_le, oN_t (by omega), show (31 : Int32).toInt = 31 from rfl]
    omega
  by_cases g : x % 32 + 1 < 32
  · rw [if_neg (fun z => g0.mp z g), ck_pos (oN_inb hx (by decide)), oN_s, oN_cl (show x < 2147483648 by omega)]
    have hx1 : x + 1 < 192 := by omega
    have bx := h1.2.1 x hx
    have bx1 := h1.2.1 (x + 1) hx1
    have fx : (M1.1 65 x).toInt = (FoR (M1.1 65) x : Nat) := by unfold FoR; omega
    have eu : (M1.1 65 x + 1).toInt = ((FoR (M1.1 65) x + 1 : Nat) : Int) := i_addN fx rfl (by omega)
    have eu' : (M1.1 65 x + 1).toInt.toNat = FoR (M1.1 65) x + 1 := by rw [eu]; exact Int.toNat_natCast _
    rw [s9_eases M1 hx1 _ (by rw [eu]; exact Int.natCast_nonneg _) bx1.1, eu']
    by_cases g4 : FoR (M1.1 65) x + 1 < FoR (M1.1 65) (x + 1)
    · rw [if_pos g4, bd2_eq, if_neg (by decide)]
      have hsum := sumN_up (FoR (M1.1 65)) (y := x + 1) (v := FoR (M1.1 65) x + 1) (n := 192) hx1
      have k1 : GoI (GP B np o (bkV s)) w s0 K R M (wg_sM M1 65 (x + 1) (M1.1 65 x + 1)) := by
        refine ⟨fun a j q => (sM_r _ _ _ _ q).trans (h1.1 a j q), h1.2.1.up (by rw [eu]; exact Int.natCast_nonneg _) (by rw [eu]; unfold FoR at *; omega), ?_⟩
        rw [FoR_up, eu']
        exact h1.2.2.wait hx hr g g4
      have k2 : FoR ((wg_sM M1 65 (x + 1) (M1.1 65 x + 1)).1 65) x < R := by
        rw [FoR_up, upN_k _ _ (by omega)]
        exact hr
      obtain ⟨r, M2, u1, u2, u3⟩ := go_panes h hx k1 k2 (r0 := 1) (Or.inr rfl)
      refine ⟨r, M2, u1, u2, Or.inr ?_⟩
      rw [FoR_up, eu'] at u3
      rcases u3 with ⟨a1, a2, a3⟩ | ⟨a1, a2 | a2⟩
      · exact absurd a2 (by decide)
      · exact ⟨a1, by omega⟩
      · exact ⟨a1, by omega⟩
    · rw [if_neg g4, bd2_eq, if_pos rfl]
      obtain ⟨r, M2, u1, u2, u3⟩ := go_panes h hx h1 hr (r0 := 0) (Or.inl rfl)
      refine ⟨r, M2, u1, u2, ?_⟩
      rcases u3 with ⟨a1, a2, a3, a4⟩ | ⟨a1, a2 | a2⟩
      · exact Or.inl ⟨a1, a3, fun _ => by omega, a4⟩
      · exact absurd a2.1 (by decide)
      · exact Or.inr ⟨a1, a2⟩
  · rw [if_pos (g0.mpr g)]
    obtain ⟨r, M2, u1, u2, u3⟩ := go_panes h hx h1 hr (r0 := 0) (Or.inl rfl)
    refine ⟨r, M2, u1, u2, ?_⟩
    rcases u3 with ⟨a1, a2, a3, a4⟩ | ⟨a1, a2 | a2⟩
    · exact Or.inl ⟨a1, a3, fun z => absurd z g, a4⟩
    · exact absurd a2.1 (by decide)
    · exact Or.inr ⟨a1, a2⟩
theorem s9_sweep {B : wg_C} {np : Nat} {o x3 s : Int32} {w : Nat → Nat → Nat} {s0 K R : Nat} {M : wg_M} (h : SpI B np o x3 s w K R M) (hR : R = 99999999) {M1 : wg_M} (h1 : GoI (GP B np o (bkV s)) w s0 K R M M1) : ∃ q : wg_M × Int32 × Int32, lp (fun (q : wg_M × Int32 × Int32) => f_X9_spreads_l108 NN o x3 q.1 q.2.1 q.2.2) NN (M1, (0 : Int32), (0 : Int32)) = some q ∧ GoI (GP B np o (bkV s)) w s0 K R M q.1 ∧ ((q.2.1 = 0 ∧ q.1 = M1 ∧ ∀ x, x < 192 → FoR (M1.1 65) x < R → ClsX (GP B np o (bkV s)) w K (FoR (M1.1 65)) x) ∨ (q.2.1 = 1 ∧ sumN (FoR (q.1.1 65)) 192 < sumN (FoR (M1.1 65)) 192)) := by
  refine lp_ok (fun q => GoI (GP B np o (bkV s)) w s0 K R M q.1 ∧ ∃ k, k ≤ 192 ∧ q.2.2 = Int32.ofNat k ∧ ((q.2.1 = 0 ∧ q.1 = M1 ∧ ∀ x, x < k → FoR (M1.1 65) x < R → ClsX (GP B np o (bkV s)) w K (FoR (M1.1 65)) x) ∨ (q.2.1 = 1 ∧ sumN (FoR (q.1.1 65)) 192 < sumN (FoR (M1.1 65)) 192))) (fun q => 192 - q.2.2.toInt.toNat) _ ?_ NN (M1, 0, 0) ⟨h1, 0, by omega, rfl, Or.inl ⟨rfl, rfl, fun x hx => absurd hx (Nat.not_lt_zero _)⟩⟩ (by have := NN_big; show 192 - _ < NN; omega)
  rintro ⟨M', v, z⟩ ⟨j1, k, hk, e2, j4⟩
  simp only at j1 e2 j4
  subst e2
  have hμ : ¬ 192 ≤ k → 192 - (Int32.ofNat k + 1).toInt.toNat < 192 - (Int32.ofNat k).toInt.toNat := fun _ => by
    rw [oN_s, oN_t (by omega), oN_t (by omega)]
    omega
  simp only [f_X9_spreads_l108, show (192 : Int32) = Int32.ofNat 192 from rfl, oN_le (show k < 2147483648 by omega) (show 192 < 2147483648 by omega), lt_eq]
  by_cases g : 192 ≤ k
  · right
    rw [if_pos g]
    have : k = 192 := by omega
    subst this
    exact ⟨_, rfl, j1, j4⟩
  · left
    have hk' : k < 192 := by omega
    rw [if_neg g, ck_pos (oN_inb hk' (by decide)), oN_cl (show k < 2147483648 by omega)]
    have bk := j1.2.1 k hk'
    have g2 : (99999999 : Int32) ≤ M'.1 65 k ↔ ¬ FoR (M'.1 65) k < R := by
      rw [i_le, show (99999999 : Int32).toInt = 99999999 from rfl]
      unfold FoR
      omega
    by_cases g1 : FoR (M'.1 65) k < R
    · rw [if_neg (fun z => g2.mp z g1)]
      obtain ⟨r, M2, u1, u2, u3⟩ := s9_goesOn h hk' j1 g1
      rw [u1, bd2_eq]
      rcases u3 with ⟨a1, a2, a3⟩ | ⟨a1, a2⟩
      · rw [if_pos a1]
        refine ⟨_, rfl, ⟨u2, k + 1, by omega, oN_s k, ?_⟩, hμ g⟩
        rw [a2]
        rcases j4 with ⟨b1, b2, b3⟩ | b1
        · refine Or.inl ⟨b1, b2, fun x hx hxr => ?_⟩
          by_cases e : x = k
          · subst e; rw [← b2]; exact a3
          · exact b3 x (by omega) hxr
        · exact Or.inr b1
      · rw [if_neg (by rw [a1]; decide)]
        refine ⟨_, rfl, ⟨u2, k + 1, by omega, oN_s k, Or.inr ⟨rfl, ?_⟩⟩, hμ g⟩
        rcases j4 with ⟨b1, b2, b3⟩ | ⟨b1, b2⟩
        · rw [← b2]; exact a2
        · exact Nat.lt_trans a2 b2
    · rw [if_pos (g2.mpr g1)]
      refine ⟨_, rfl, ⟨j1, k + 1, by omega, oN_s k, ?_⟩, hμ g⟩
      rcases j4 with ⟨b1, b2, b3⟩ | b1
      · refine Or.inl ⟨b1, b2, fun x hx hxr => ?_⟩
        by_cases e : x = k
        · subst e; rw [← b2] at hxr; exact absurd hxr g1
        · exact b3 x (by omega) hxr
      · exact Or.inr b1
/-- far from x on -/
theorem s9_spread {B : wg_C} {np : Nat} {o x3 s : Int32} {w : Nat → Nat → Nat} {s0 K R : Nat} {M : wg_M} (h : SpI B np o x3 s w K R M) (hR : R = 99999999) (hs0 : s0 < 192) : ∃ L, (bd2 (lp (fun o' => f_X9_spreads_l63 NN (Int32.ofNat s0) o x3 o'.1 o'.2) NN (M, (0 : Int32))) fun M32 v33 => ck (inb (Int32.ofNat s0) 192) <| lt_ (wg_sM M32 65 (Int32.ofNat s0).toNatClampNeg (0 : Int32)) fun M39 => bd2 (lp (fun o' => f_X9_spreads_l97 NN o x3 o'.1 o'.2) NN (M39, (1 : Int32))) fun M62 v63 => some M62) = some L ∧ (∀ a k, a ≠ 65 → L.1 a k = M.1 a k) ∧ Bd (L.1 65) R ∧ FinS (GP B np o (bkV s)) w s0 K R (FoR (L.1 65)) := by
  have e0 := lp_to (b := fun (o' : wg_M × Int32) => f_X9_spreads_l63 NN (Int32.ofNat s0) o x3 o'.1 o'.2) (fun k => (rowM M 65 0 k (fun _ => 99999999), Int32.ofNat k)) 192 (rowM M 65 0 192 (fun _ => 99999999), 192) (fun k hk => by
    simp only [f_X9_spreads_l63, show (192 : Int32) = Int32.ofNat 192 from rfl, oN_le (show k < 2147483648 by omega) (show 192 < 2147483648 by omega), Nat.not_le.mpr hk, if_false, ck_pos (oN_inb hk (by omega)), lt_eq, oN_cl (show k < 2147483648 by omega), oN_s]
    rw [← rowM_s, Nat.zero_add]) (by rfl) NN (by have := NN_big; omega)
  rw [rowM_0] at e0
  rw [show lp (fun (o' : wg_M × Int32) => f_X9_spreads_l63 NN (Int32.ofNat s0) o x3 o'.1 o'.2) NN (M, (0 : Int32)) = some (rowM M 65 0 192 (fun _ => 99999999), 192) from e0, bd2_eq, ck_pos (oN_inb hs0 (by decide)), oN_cl (show s0 < 2147483648 by omega), lt_eq]
  have hA : ∀ x, x < 192 → (wg_sM (rowM M 65 0 192 (fun _ => 99999999)) 65 s0 0).1 65 x = if x = s0 then 0 else 99999999 := fun x hx => by
    by_cases e : x = s0
    · rw [if_pos e, e, sM_s]
    · rw [if_neg e, sM_k _ _ e, rowM_1, rowC_in (by omega) (by omega)]
  have k1 : GoI (GP B np o (bkV s)) w s0 K R M (wg_sM (rowM M 65 0 192 (fun _ => 99999999)) 65 s0 0) := by
    refine ⟨fun a j q => ?_, fun x hx => ?_, ?_, fun x hx hxr => ?_⟩
    · rw [sM_r _ _ _ _ q, rowM_1, rowC_ne q]
    · rw [hA x hx]
      by_cases e : x = s0
      · rw [if_pos e, Int32.toInt_zero]; omega
      · rw [if_neg e, show (99999999 : Int32).toInt = 99999999 from rfl]; omega
    · unfold FoR
      rw [hA s0 hs0, if_pos rfl]
      rfl
    · unfold FoR at hxr ⊢
      rw [hA x hx] at hxr ⊢
      by_cases e : x = s0
      · rw [if_pos e]
        exact ⟨0, 0, 0, ⟨e, rfl, rfl⟩, rfl⟩
      · rw [if_neg e, show (99999999 : Int32).toInt = 99999999 from rfl] at hxr
        omega
  obtain ⟨⟨L, v⟩, e1, e2, e3⟩ := lp_ok (b := fun (o' : wg_M × Int32) => f_X9_spreads_l97 NN o x3 o'.1 o'.2) (fun q => GoI (GP B np o (bkV s)) w s0 K R M q.1 ∧ ((q.2 = 0 ∧ ∀ x, x < 192 → FoR (q.1.1 65) x < R → ClsX (GP B np o (bkV s)) w K (FoR (q.1.1 65)) x) ∨ q.2 = 1)) (fun q => 2 * sumN (FoR (q.1.1 65)) 192 + q.2.toInt.toNat) (fun q => GoI (GP B np o (bkV s)) w s0 K R M q.1 ∧ ∀ x, x < 192 → FoR (q.1.1 65) x < R → ClsX (GP B np o (bkV s)) w K (FoR (q.1.1 65)) x) (by
    rintro ⟨M', v⟩ ⟨j1, j2⟩
    simp only at j1 j2
    unfold f_X9_spreads_l97
    rcases j2 with ⟨rfl, j2⟩ | rfl
    · right
      simp only [if_true]
      exact ⟨_, rfl, j1, j2⟩
    · left
      obtain ⟨⟨M2, r, z⟩, u1, u2, u3⟩ := s9_sweep h hR j1
      simp only at u2 u3
      simp only [show ¬ (1 : Int32) = 0 by decide, if_false, u1, bd3_eq]
      refine ⟨_, rfl, ⟨u2, ?_⟩, ?_⟩
      · rcases u3 with ⟨a1, a2, a3⟩ | ⟨a1, a2⟩
        · left
          refine ⟨a1, ?_⟩
          rw [a2]
          exact a3
        · exact Or.inr a1
      · show 2 * sumN (FoR (M2.1 65)) 192 + r.toInt.toNat < 2 * sumN (FoR (M'.1 65)) 192 + (1 : Int32).toInt.toNat
        rcases u3 with ⟨a1, a2, a3⟩ | ⟨a1, a2⟩
        · rw [a1, a2]
          show _ + 0 < _ + 1
          omega
        · rw [a1]
          show _ + 1 < _ + 1
          omega) NN (wg_sM (rowM M 65 0 192 (fun _ => 99999999)) 65 s0 0, 1) ⟨k1, Or.inr rfl⟩ (by
    have := NN_huge
    have := sumN_le (F := FoR ((wg_sM (rowM M 65 0 192 (fun _ => 99999999)) 65 s0 0).1 65)) (R := R) (n := 192) (fun x hx => by have := k1.2.1 x hx; unfold FoR; omega)
    show 2 * sumN (FoR ((wg_sM (rowM M 65 0 192 (fun _ => 99999999)) 65 s0 0).1 65)) 192 + 1 < NN
    omega)
  rw [e1, bd2_eq]
  simp only at e2 e3
  exact ⟨L, rfl, e2.1, e2.2.1, e2.2.2.1, e2.2.2.2, fun x hx hr hd => (e3 x hx hr).1 hd, fun p x y hx hr hp => (e3 x hx hr).2 p y hp⟩
