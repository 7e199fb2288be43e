/-- a weather that is drawn -/
def wdV (z : Int32) : Int32 := ((z.toUInt32 >>> ((9 : Int32).toUInt32 &&& Int32.toUInt32 31)).toInt32) - ((z.toUInt32 >>> ((9 : Int32).toUInt32 &&& Int32.toUInt32 31)).toInt32) / (10 : Int32) * (10 : Int32)
theorem wd_u (u : UInt32) : 0 ≤ ((u >>> ((9 : Int32).toUInt32 &&& Int32.toUInt32 31)).toInt32).toInt ∧ ((u >>> ((9 : Int32).toUInt32 &&& Int32.toUInt32 31)).toInt32).toInt < 8388608 := by
  have e : ((9 : Int32).toUInt32 &&& Int32.toUInt32 31) = 9 := by decide
  rw [e, ← Int32.toInt_toBitVec, UInt32.toBitVec_toInt32, BitVec.toInt_eq_toNat_bmod, i_bm, UInt32.toNat_toBitVec, UInt32.toNat_shiftRight]
  have h := u.toNat_lt
  rw [show (9 : UInt32).toNat % 32 = 9 from rfl, Nat.shiftRight_eq_div_pow]
  omega
theorem wd_rg (z : Int32) : 0 ≤ (wdV z).toInt ∧ (wdV z).toInt ≤ 9 := by
  unfold wdV
  have h := wd_u z.toUInt32
  generalize (z.toUInt32 >>> ((9 : Int32).toUInt32 &&& Int32.toUInt32 31)).toInt32 = x at *
  rw [i_sub, i_mul, i_divp _ _ h.1 (by decide), show (10 : Int32).toInt = 10 from rfl]
  omega
theorem dr_loop {C : wg_C} {M : wg_M} (r z : Int32) (S : wg_Sh) : ∃ E L, lp (fun (o : wg_C × Int32 × Int32) => f_X8_drawnWater_l5 NN S r o.1 o.2.1 o.2.2) NN (C, z, (0 : Int32)) = some E ∧ lp (fun (o : wg_M × Int32 × Int32) => f_X9_draws_l5 NN r o.1 o.2.1 o.2.2) NN (M, z, (0 : Int32)) = some L ∧ (∀ a j, a ≠ 42 → E.1 a j = C a j) ∧ (∀ a j, a ≠ 59 → a ≠ 68 → L.1.1 a j = M.1 a j) ∧ (∀ j, j < 32 → (L.1.1 59 j = E.1 42 j ∧ 0 ≤ (E.1 42 j).toInt ∧ (E.1 42 j).toInt ≤ 9) ∧ L.1.1 68 j = M.1 59 j) ∧ ∀ j, 32 ≤ j → L.1.1 59 j = M.1 59 j := by
  refine lp_rel (fun x y => x.2 = y.2 ∧ ∃ k, k ≤ 32 ∧ x.2.2 = Int32.ofNat k ∧ (∀ a j, a ≠ 42 → x.1 a j = C a j) ∧ (∀ a j, a ≠ 59 → a ≠ 68 → y.1.1 a j = M.1 a j) ∧ (∀ j, j < k → (y.1.1 59 j = x.1 42 j ∧ 0 ≤ (x.1 42 j).toInt ∧ (x.1 42 j).toInt ≤ 9) ∧ y.1.1 68 j = M.1 59 j) ∧ ∀ j, k ≤ j → y.1.1 59 j = M.1 59 j) (fun x => 32 - x.2.2.toInt.toNat) _ ?_ NN NN (C, z, 0) (M, z, 0) ⟨rfl, 0, by omega, rfl, fun _ _ _ => rfl, fun _ _ _ _ => rfl, fun j hj => absurd hj (Nat.not_lt_zero _), fun _ _ => rfl⟩ (by have := NN_big; show 32 - _ < NN; omega) (by have := NN_big; show 32 - _ < NN; omega)
  rintro ⟨C', v, x⟩ ⟨M', v', x'⟩ ⟨e1, k, hk, e2, i1, i2, i3, i4⟩
  simp only [Prod.mk.injEq] at e1 e2 i1 i2 i3 i4
  obtain ⟨rfl, rfl⟩ := e1
  subst e2
  simp only [f_X8_drawnWater_l5, f_X9_draws_l5, show (32 : Int32) = Int32.ofNat 32 from rfl, oN_le (show k < 2147483648 by omega) (show 32 < 2147483648 by omega)]
  by_cases g : 32 ≤ k
  · right
    rw [if_pos g, if_pos g]
    have : k = 32 := by omega
    subst this
    exact ⟨_, _, rfl, rfl, i1, i2, i3, i4⟩
  · left
    rw [if_neg g, if_neg g]
    simp only [lt_eq, ck_pos (oN_inb (show k < 32 by omega) (by decide)), oN_cl (show k < 2147483648 by omega)]
    have hμ : 32 - (Int32.ofNat k + 1).toInt.toNat < 32 - (Int32.ofNat k).toInt.toNat := by
      rw [oN_s, oN_t (by omega), oN_t (by omega)]
      omega
    refine ⟨_, _, rfl, rfl, ⟨rfl, k + 1, by omega, oN_s k, ?_, ?_, ?_, ?_⟩, hμ⟩
    · intro a j q
      exact (up_r _ _ _ _ q).trans (i1 a j q)
    · intro a j q q'
      exact (sM_r _ _ _ _ q).trans ((sM_r _ _ _ _ q').trans (i2 a j q q'))
    · intro j hj
      show ((wg_sM (wg_sM M' 68 k (M'.1 59 k)) 59 k (wdV (v * 1103515245 + 12345))).1 59 j = wg_up C' 42 k (wdV (v * 1103515245 + 12345)) 42 j ∧ 0 ≤ (wg_up C' 42 k (wdV (v * 1103515245 + 12345)) 42 j).toInt ∧ (wg_up C' 42 k (wdV (v * 1103515245 + 12345)) 42 j).toInt ≤ 9) ∧ (wg_sM (wg_sM M' 68 k (M'.1 59 k)) 59 k (wdV (v * 1103515245 + 12345))).1 68 j = M.1 59 j
      by_cases z : j = k
      · subst z
        rw [sM_s, up_s, sM_r _ _ _ _ (by decide), sM_s]
        exact ⟨⟨rfl, wd_rg _⟩, i4 _ (Nat.le_refl _)⟩
      · rw [sM_k _ _ z, up_k _ _ z, sM_r _ _ _ _ (show 59 ≠ 68 by decide), sM_r _ _ _ _ (show 68 ≠ 59 by decide), sM_k _ _ z]
        exact i3 j (by omega)
    · intro j hj
      refine (sM_k _ _ (by omega)).trans ((sM_r _ _ _ _ (by decide)).trans (i4 j (by omega)))
theorem s_draw {S : wg_Sh} {C : wg_C} {M : wg_M} (h : wInv S C M) (r z : Int32) : ∃ v F K, f_X8_drawnWater NN S C r z = some (v, F) ∧ f_X9_draws NN M r z = some (v, K) ∧ wInv S F K := by
  obtain ⟨E, L, e1, e2, i1, i2, i3, i4⟩ := dr_loop (C := C) (M := M) r z S
  obtain ⟨np, nt, t, id, val, hf⟩ := h.fl
  obtain ⟨f1, f2, f3, f4, f5, f6, f7, f8, f9⟩ := hf
  have hB : ∃ B : wg_C, B = fun a j => if a = 2 then E.1 42 j else C a j := ⟨_, rfl⟩
  obtain ⟨B, hB⟩ := hB
  have b2 : ∀ j, B 2 j = E.1 42 j := fun j => by rw [hB]; rfl
  have b1 : ∀ a j, a ≠ 2 → B a j = C a j := fun a j q => by rw [hB]; exact if_neg q
  have hI : IHo np B L.1 := by
    obtain ⟨q1, q2, q3, q4, q5, q6⟩ := f1
    refine ⟨q1, by rw [b1 _ _ (by decide)]; exact q2, by rw [b1 _ _ (by decide), i2 _ _ (by decide) (by decide)]; exact q3, ?_, ?_, ?_⟩
    · intro d hd
      unfold IS
      rw [b2]
      exact (i3 d hd).1
    · intro p hp
      rw [b1 _ _ (by omega)]
      exact q5 p hp
    · intro p hp
      have := q6 p hp
      unfold IP at *
      simp only [b1 (4 + p) _ (show 4 + p ≠ 2 by omega), i2 60 p (by decide) (by decide), i2 61 p (by decide) (by decide), i2 62 p (by decide) (by decide), i2 63 p (by decide) (by decide), i2 64 p (by decide) (by decide)]
      exact this
  have hF : FlI S B E.1 L.1 np nt 42 t id val := ⟨hI, ⟨fun a k q => by rw [b1 _ _ (by omega), i1 _ _ (by omega)], fun d hd => (b2 d).symm⟩, by decide, f4.keep (fun a k q => i1 a k (by omega)) (fun k => i2 _ _ (by decide) (by decide)) (fun k => i2 _ _ (by decide) (by decide)), by rw [i1 _ _ (by decide)]; exact f5, by rw [i2 _ _ (by decide) (by decide)]; exact f6, f7, f8, by rw [i1 _ _ (by decide)]; exact f9⟩
  obtain ⟨F, K, u1, u2, u3, u4, u5, u6⟩ := flood_rel hF r
  unfold f_X8_drawnWater f_X9_draws
  rw [e1, e2]
  obtain ⟨E, ez, ek⟩ := E
  obtain ⟨L, lz, lk⟩ := L
  simp only at u1 u2 u3 u4 u5 u6 i1 i2 i3 i4
  simp only [bd3_eq, u1, u2, bd2_eq, bd_eq]
  have e3 := lp_to (b := fun (o : wg_M × Int32) => f_X9_draws_l64 NN o.1 o.2) (fun k => (rowM K 59 0 k (K.1 68), Int32.ofNat k)) 32 (rowM K 59 0 32 (K.1 68), 32) (fun k hk => by
    simp only [f_X9_draws_l64, show (32 : Int32) = Int32.ofNat 32 from rfl, oN_le (show k < 2147483648 by omega) (show 32 < 2147483648 by omega), Nat.not_le.mpr hk, if_false, ck_pos (oN_inb hk (by omega)), lt_eq, oN_cl (show k < 2147483648 by omega), oN_s]
    rw [rowM_1, rowC_ne (by decide), ← rowM_s, Nat.zero_add]) (by rfl) NN (by have := NN_big; omega)
  rw [rowM_0] at e3
  rw [show lp (fun (o : wg_M × Int32) => f_X9_draws_l64 NN o.1 o.2) NN (K, (0 : Int32)) = some (rowM K 59 0 32 (K.1 68), 32) from e3, bd2_eq, s9_wetAll, bd_eq]
  refine ⟨_, F, rowM K 59 0 32 (K.1 68), rfl, ?_, ?_⟩
  · rw [sumV_congr u3, rowM_1, sumV_congr (f := rowC K.1 59 0 32 (K.1 68) 67) (g := K.1 67) (fun d hd => rowC_ne (by decide))]
  · refine h.keep (fun a k q => ?_) (fun a k q => ?_)
    · rw [u4 a k (by unfold pC at q; omega) (by unfold pC at q; omega) (by unfold pC at q; omega)]
      exact i1 a k (by unfold pC at q; omega)
    · rw [rowM_1]
      by_cases y : a = 59
      · subst y
        by_cases x : k < 32
        · rw [rowC_in (by omega) (by omega), u5 68 k (by omega) (by decide)]
          exact (i3 k x).2
        · rw [rowC_out (by omega), u5 59 k (by omega) (by decide)]
          exact i4 k (by omega)
      · rw [rowC_ne y, u5 a k (by unfold pM at q; omega) (by unfold pM at q; omega)]
        exact i2 a k y (by unfold pM at q; omega)
theorem h_drawn : H_drawn wInv := by
  intro S C M h hw r z
  obtain ⟨v, F, K, e1, e2, e3⟩ := s_draw h r z
  unfold f_X8_drawn f_X9_drawn
  simp only [s8_isRoom, s9_isRoom, bd_eq, if_bI, e1, e2, bd2_eq]
  by_cases g1 : rg 6 r = true
  · simp only [g1, if_true]
    exact ⟨_, _, _, rfl, rfl, e3⟩
  · simp only [g1]
    exact ⟨_, _, _, rfl, rfl, h⟩
def gB9 (o : Int64 × Int64) : Option ((Int64 × Int64) ⊕ (Int64 × Int64)) := if (lg_cmp o.2 (0 : Int64)) = 0 then some (.inr (o.1, o.2)) else ck (¬ o.2 = 0) <| some (.inl (o.2, o.1 - o.1 / o.2 * o.2))
def g8V (n c : Nat) : Int32 × Int32 × Int32 := (lp (fun o => f_X8_commonDivisor_l7 30 o.1 o.2.1 o.2.2) 30 (Int32.ofNat n, Int32.ofNat c, (0 : Int32))).getD (0, 0, 0)
def g9V (n c : Nat) : Int64 × Int64 := (lp gB9 30 (Int64.ofNat c, (Int32.ofNat n).toInt64)).getD (0, 0)
def g8D (n c : Nat) : Int32 := if (1 : Int32) ≤ (g8V n c).1 then (g8V n c).1 else 1
def gcOk (n c : Nat) : Bool := decide (lp (fun o => f_X8_commonDivisor_l7 30 o.1 o.2.1 o.2.2) 30 (Int32.ofNat n, Int32.ofNat c, (0 : Int32)) = some (g8V n c)) && (decide (lp gB9 30 (Int64.ofNat c, (Int32.ofNat n).toInt64) = some (g9V n c)) && (decide (¬ g8D n c = 0) && (decide (¬ (g9V n c).1 = 0) && (decide ((Int32.ofNat c / g8D n c).toInt64 = Int64.ofNat c / (g9V n c).1) && decide ((Int32.ofNat n / g8D n c).toInt64 = (Int32.ofNat n).toInt64 / (g9V n c).1)))))
set_option maxRecDepth 100000 in
theorem gcd_ok : ∀ n : Nat, n < 21 → ∀ c : Nat, c < 21 → n = 0 ∨ n < c ∨ gcOk n c = true := by decide +kernel
theorem gcd_all (n : Nat) (hn : n < 21) (c : Nat) (hc : c < 21) : n = 0 ∨ n < c ∨ (lp (fun o => f_X8_commonDivisor_l7 30 o.1 o.2.1 o.2.2) 30 (Int32.ofNat n, Int32.ofNat c, (0 : Int32)) = some (g8V n c) ∧ lp gB9 30 (Int64.ofNat c, (Int32.ofNat n).toInt64) = some (g9V n c) ∧ (¬ g8D n c = 0) ∧ (¬ (g9V n c).1 = 0) ∧ (Int32.ofNat c / g8D n c).toInt64 = Int64.ofNat c / (g9V n c).1 ∧ (Int32.ofNat n / g8D n c).toInt64 = (Int32.ofNat n).toInt64 / (g9V n c).1) := by
  rcases gcd_ok n hn c hc with h | h | h
  · exact Or.inl h
  · exact Or.inr (Or.inl h)
  · unfold gcOk at h
    simp only [Bool.and_eq_true, decide_eq_true_eq] at h
    exact Or.inr (Or.inr h)
theorem h_chance : H_chance wInv := by
  intro S C M h hw r z n m w
  unfold f_X8_chance f_X9_chance
  rw [s_inl n 1 20 1 20 rfl rfl, s_inl m 0 99999 0 99999 rfl rfl, show f_X9_in w.toInt64 0 1 = some (bI (rg 2 w = true)) from s_inr w 1 2 rfl]
  simp only [s8_isRoom, s9_isRoom, bd_eq, if_bI]
  have hno : ∃ (r : Int64) (C1 : wg_C) (M1 : wg_M), (some ((-4611686018427387904 : Int64), C) : Option (Int64 × wg_C)) = some (r, C1) ∧ (some ((-4611686018427387904 : Int64), M) : Option (Int64 × wg_M)) = some (r, M1) ∧ wInv S C1 M1 := ⟨_, _, _, rfl, rfl, h⟩
  by_cases g1 : rg 6 r = true
  case neg => rw [if_neg g1, if_neg g1]; exact hno
  rw [if_pos g1, if_pos g1]
  have c1 : n < 1 ↔ n.toInt < 1 := by rw [i_lt, Int32.toInt_one]
  have c2 : n ≤ 20 ↔ n.toInt ≤ 20 := by rw [i_le]; rfl
  have c3 : m < 0 ↔ m.toInt < 0 := by rw [i_lt, Int32.toInt_zero]
  have c4 : 99999 < m ↔ 99999 < m.toInt := by rw [i_lt]; rfl
  have c5 : w < 0 ↔ w.toInt < 0 := by rw [i_lt, Int32.toInt_zero]
  have c6 : w ≤ 1 ↔ w.toInt ≤ 1 := by rw [i_le, Int32.toInt_one]
  simp only [c1, c2, c3, c4, c5, c6]
  by_cases g2 : 1 ≤ n.toInt ∧ n.toInt ≤ 20
  case neg =>
    rw [if_neg g2]
    by_cases y : n.toInt < 1
    · rw [if_pos y]; exact hno
    · rw [if_neg y, if_neg (by omega)]; exact hno
  rw [if_pos g2, if_neg (by omega), if_pos (by omega)]
  by_cases g3 : 0 ≤ m.toInt ∧ m.toInt ≤ 99999
  case neg =>
    rw [if_neg g3]
    by_cases y : m.toInt < 0
    · rw [if_pos y]; exact hno
    · rw [if_neg y, if_pos (by omega)]; exact hno
  rw [if_pos g3, if_neg (by omega), if_neg (by omega)]
  have q := rg_iff 2 w
  by_cases g4 : rg 2 w = true
  case neg =>
    have q : ¬ (0 ≤ w.toInt ∧ w.toInt < 2) := fun z => g4 (q.mpr z)
    rw [if_neg g4]
    by_cases y : w.toInt < 0
    · rw [if_pos y]; exact hno
    · rw [if_neg y, if_neg (by omega)]; exact hno
  have q := q.mp g4
  rw [if_pos g4, if_neg (by omega), if_pos (by omega)]
  obtain ⟨N, hN, hn⟩ : ∃ N : Nat, N < 21 ∧ n = Int32.ofNat N := rg_oN ((rg_iff 21 n).mpr (by omega))
  subst hn
  have hN1 : 1 ≤ N := by
    have := oN_t (show N < 2147483648 by omega)
    omega
  obtain ⟨E, L, e1, e2, c, hc, e3, e4, e5⟩ := lp_rel (b := fun (o : wg_C × Int32 × Int32) => f_X8_chance_l56 NN S r z (Int32.ofNat N) m w o.1 o.2.1 o.2.2) (c := fun (o : wg_M × Int64 × Int32) => f_X9_chance_l53 NN r z (Int32.ofNat N) m w o.1 o.2.1 o.2.2) (fun x y => wInv S x.1 y.1 ∧ ∃ c k, c ≤ k ∧ k ≤ N ∧ x.2.1 = Int32.ofNat c ∧ y.2.1 = Int64.ofNat c ∧ x.2.2 = Int32.ofNat k ∧ y.2.2 = Int32.ofNat k) (fun x => N - x.2.2.toInt.toNat) (fun x y => ∃ c, c ≤ N ∧ x.2.1 = Int32.ofNat c ∧ y.2.1 = Int64.ofNat c ∧ wInv S x.1 y.1) (by
    rintro ⟨C', v, x⟩ ⟨M', v', x'⟩ ⟨hI, c, k, hc, hk, e1, e2, e3, e4⟩
    simp only at hI e1 e2 e3 e4
    subst e1 e2 e3 e4
    obtain ⟨u, F, K, u1, u2, u3⟩ := s_draw hI r (z + Int32.ofNat k)
    simp only [f_X8_chance_l56, f_X9_chance_l53, oN_le (show k < 2147483648 by omega) (show N < 2147483648 by omega), u1, u2, bd2_eq, lt_eq]
    by_cases g : N ≤ k
    · right
      rw [if_pos g, if_pos g]
      exact ⟨_, _, rfl, rfl, c, by omega, rfl, rfl, hI⟩
    · left
      have hμ : N - (Int32.ofNat k + 1).toInt.toNat < N - (Int32.ofNat k).toInt.toNat := by
        rw [oN_s, oN_t (by omega), oN_t (by omega)]
        omega
      rw [if_neg g, if_neg g]
      by_cases y : m < u
      · rw [if_pos y, if_pos y]
        exact ⟨_, _, rfl, rfl, ⟨u3, c, k + 1, by omega, by omega, rfl, Int64.add_zero _, oN_s k, oN_s k⟩, hμ⟩
      · rw [if_neg y, if_neg y]
        exact ⟨_, _, rfl, rfl, ⟨u3, c + 1, k + 1, by omega, by omega, oN_s c, (Int64.ofNat_add c 1).symm, oN_s k, oN_s k⟩, hμ⟩) NN NN (C, 0, 0) (M, 0, 0) ⟨h, 0, 0, by omega, by omega, rfl, rfl, rfl, rfl⟩ (by have := NN_big; show N - _ < NN; omega) (by have := NN_big; show N - _ < NN; omega)
  rw [e1, e2]
  obtain ⟨E, ev, ek⟩ := E
  obtain ⟨L, lv, lk⟩ := L
  simp only at e3 e4 e5
  subst e3 e4
  simp only [bd3_eq, lt_eq]
  rcases gcd_all N hN c (by omega) with y | y | ⟨y1, y2, y3, y4, y5, y6⟩
  · omega
  · omega
  obtain ⟨k, hk⟩ := NN_split 30 (by decide)
  have z1 : f_X8_commonDivisor NN (Int32.ofNat N) (Int32.ofNat c) = some (g8D N c) := by
    unfold f_X8_commonDivisor
    rw [show (fun o : Int32 × Int32 × Int32 => f_X8_commonDivisor_l7 NN o.1 o.2.1 o.2.2) = (fun o => f_X8_commonDivisor_l7 30 o.1 o.2.1 o.2.2) from rfl, hk, lpN 30 y1 k]
    show (if _ then _ else _) = _
    unfold g8D
    split <;> rfl
  have z2 : lp (fun o : Int64 × Int64 => f_X9_chance_l97 NN L (Int32.ofNat N) w (Int64.ofNat c) o.1 o.2) NN (Int64.ofNat c, (Int32.ofNat N).toInt64) = some (g9V N c) := by
    rw [show (fun o : Int64 × Int64 => f_X9_chance_l97 NN L (Int32.ofNat N) w (Int64.ofNat c) o.1 o.2) = gB9 from rfl, hk]
    exact lpN 30 y2 k
  rw [z1, z2, bd_eq]
  show ∃ r C1 M1, _ ∧ (if w = 0 then ck (¬ (g9V N c).1 = 0) (some (Int64.ofNat c / (g9V N c).1, L)) else ck (¬ (g9V N c).1 = 0) (some ((Int32.ofNat N).toInt64 / (g9V N c).1, L))) = some (r, M1) ∧ _
  rw [ck_pos y3, ck_pos y3, ck_pos y4, ck_pos y4, y5, y6]
  by_cases y : w = 0
  · rw [if_pos y, if_pos y]
    exact ⟨_, _, _, rfl, rfl, e5⟩
  · rw [if_neg y, if_neg y]
    exact ⟨_, _, _, rfl, rfl, e5⟩
