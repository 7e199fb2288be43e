theorem wInv.T {S1 : wg_Sh} {C C1 : wg_C} {M M1 : wg_M} {np nt nt' : Nat} (hs1 : wg_SC S1 ∧ wg_SM S1) (hnt : nt ≤ nt') (h1 : IHo np C M) (h2 : IK np nt C M) (h3 : IR nt C M) (h5 : ∀ s, s < 4 → ISh C M s) (h6 : M.1 55 14 = 0) (FC : ∀ a k, (a ≤ 22 ∨ (44 ≤ a ∧ a < 52)) → C1 a k = C a k) (FM : ∀ a k, (59 ≤ a ∨ (a = 55 ∧ (k = 4 ∨ k = 13 ∨ k = 14 ∨ k = 38 ∨ k = 39))) → M1.1 a k = M.1 a k) (t1 : C1 23 1 = 0) (t2 : M1.1 55 6 = 0) (h7 : IT nt' S1 C1 M1) : wInv S1 C1 M1 := by
  refine ⟨hs1, np, nt', ?_, ?_, ?_, ?_, ?_, ?_, h7⟩
  · exact h1.keep (fun a k q => FC a k (Or.inl (by omega))) (fun a k q q' => FM a k (Or.inl q)) (FM 55 13 (by simp))
  · have := h2.keep (D := C1) (L := M1) h1.1 (FC 0 2 (Or.inl (by omega))) (fun a k q q' => FC a k (Or.inl q')) (fun p q => FM 60 p (by simp)) (fun a k q q' => FM a k (Or.inl (by omega))) (FM 55 38 (by simp)) (FM 55 39 (by simp))
    rcases this with h | ⟨h0, kp, k1, k2, k3, k4, k5, k6⟩
    · exact Or.inl h
    · exact Or.inr ⟨h0, kp, k1, k2, k3, k4, ⟨k5.1, by omega⟩, k6⟩
  · have := h3.keep (D := C1) (L := M1) (FC 1 3 (Or.inl (by omega))) (FM 55 4 (by simp))
    exact ⟨this.1, this.2.1, by have := this.2.2; omega⟩
  · refine ⟨0, by omega, by rw [t1]; rfl, by rw [t1]; exact t2, fun i hi => absurd hi (Nat.not_lt_zero _)⟩
  · intro s hs
    exact (h5 s hs).keep (fun k => FC _ k (Or.inr (by omega))) (fun k => FC _ k (Or.inr (by omega))) (FM 71 s (by simp)) (FM 72 s (by simp)) (FM 73 s (by simp)) (fun i _ => FM 74 _ (by simp))
  · rw [FM 55 14 (by simp)]
    exact h6
theorem s9_copyT {M : wg_M} {n nt : Nat} (hn : n ≤ 160) (hnt : nt < 6) (h6 : M.1 55 6 = Int32.ofNat n) (h3 : M.1 55 3 = Int32.ofNat nt) : ∃ K x, lp (fun o => f_X9_text_l14 NN o.1 o.2) NN (M, (0 : Int32)) = some (K, x) ∧ (∀ a k, ¬ (a = 56 ∧ 160 * nt ≤ k) → K.1 a k = M.1 a k) ∧ ∀ i, i < n → K.1 56 (160 * nt + i) = M.1 58 i := by
  obtain ⟨⟨K, x⟩, e1, e2⟩ := lp_ok (b := fun (o : wg_M × Int32) => f_X9_text_l14 NN o.1 o.2) (fun q => (∀ a k, ¬ (a = 56 ∧ 160 * nt ≤ k) → q.1.1 a k = M.1 a k) ∧ ∃ i, i ≤ n ∧ q.2 = Int32.ofNat i ∧ ∀ j, j < i → q.1.1 56 (160 * nt + j) = M.1 58 j) (fun q => 160 - q.2.toInt.toNat) (fun q => (∀ a k, ¬ (a = 56 ∧ 160 * nt ≤ k) → q.1.1 a k = M.1 a k) ∧ ∀ i, i < n → q.1.1 56 (160 * nt + i) = M.1 58 i) (by
    rintro ⟨K, x⟩ ⟨j1, i, hi, j2, j3⟩
    simp only at j1 j2 j3
    subst j2
    simp only [f_X9_text_l14, lt_eq]
    rw [j1 55 6 (by omega), j1 55 3 (by omega), h6, h3, j1 58 _ (by omega)]
    by_cases g : n ≤ i
    · right
      rw [if_pos ((oN_le (show i < 2147483648 by omega) (show n < 2147483648 by omega)).mpr g)]
      exact ⟨_, rfl, j1, fun k hk => j3 k (by omega)⟩
    · left
      have ea : (160 : Int32) * Int32.ofNat nt + Int32.ofNat i = Int32.ofNat (160 * nt + i) := by
        have e0 : ((160 : Int32) * Int32.ofNat nt).toInt = (160 * nt : Nat) := by
          rw [i_mul, oN_t (by omega), show (160 : Int32).toInt = 160 from rfl]
          omega
        rw [i_eq, i_add, e0, oN_t (by omega), oN_t (by omega)]
        omega
      rw [if_neg (fun z => g ((oN_le (show i < 2147483648 by omega) (show n < 2147483648 by omega)).mp z)), ck_pos (oN_inb (show i < 160 by omega) (by decide)), ea, ck_pos (oN_inb (show 160 * nt + i < 960 by omega) (by decide)), oN_cl (show 160 * nt + i < 2147483648 by omega), oN_cl (show i < 2147483648 by omega)]
      refine ⟨_, rfl, ⟨fun a k z => ?_, i + 1, by omega, oN_s i, fun j hj => ?_⟩, ?_⟩
      · show (wg_sM K 56 (160 * nt + i) (M.1 58 i)).1 a k = _
        by_cases y : a = 56
        · rw [y, sM_k _ _ (by omega), ← y]
          exact j1 a k z
        · rw [sM_r _ _ _ _ y]
          exact j1 a k z
      · show (wg_sM K 56 (160 * nt + i) (M.1 58 i)).1 56 (160 * nt + j) = _
        by_cases y : j = i
        · rw [y, sM_s]
        · rw [sM_k _ _ (by omega)]
          exact j3 j (by omega)
      · show 160 - (Int32.ofNat i + 1).toInt.toNat < 160 - (Int32.ofNat i).toInt.toNat
        rw [oN_s, oN_t (by omega), oN_t (by omega)]
        omega) NN (M, 0) ⟨fun _ _ _ => rfl, 0, Nat.zero_le _, rfl, fun j hj => absurd hj (Nat.not_lt_zero _)⟩ (by have := NN_big; show 160 - _ < NN; omega)
  exact ⟨K, x, e1, e2⟩
theorem h_text : H_text wInv := by
  intro S C M h hw
  obtain ⟨hs, np, nt, h1, h2, h3, h4, h5, h6, h7⟩ := id h
  obtain ⟨⟨n1, n2⟩, n3, n4, n5⟩ := id h7
  have e31 : C 31 1 = Int32.ofNat nt := oN_eq n3
  have i0 := SCi hs.1 0 8 rfl
  have i23 := SCi hs.1 23 5 rfl
  have i28 := SCi hs.1 28 2 rfl
  have i31 := SCi hs.1 31 3 rfl
  have i32 := SCi hs.1 32 15 rfl
  have n52 : 51 < S.2.2.2 := (hs.1.1 51 (by decide)).1.1
  unfold f_X8_text f_X9_text
  rw [ck_pos (show 0 < S.2.2.2 ∧ S.2.2.1 0 = 8 from i0), ck_pos (SCr hs.1 0 5 31 rfl), ck_pos (show 31 < S.2.2.2 ∧ S.2.2.1 31 = 3 from i31)]
  by_cases g : nt = 6
  · rw [n4, e31, g, if_neg (by decide), if_pos (by decide)]
    exact ⟨-4, S, C, M, rfl, rfl, h, hw⟩
  · have m3 : M.1 55 3 = Int32.ofNat nt := n4.trans e31
    have lt6 : C 31 1 < 6 := by
      rw [e31]
      exact (oN_lt (show 6 < 2147483648 by decide) (show nt < 2147483648 by omega)).mpr (by omega)
    rw [if_pos lt6, if_neg (show ¬ M.1 55 3 = 6 from fun z => g (by
      rw [m3, i_eq, oN_t (by omega), show (6 : Int32).toInt = 6 from rfl] at z
      omega))]
    obtain ⟨n, t1, t2, t3, t4⟩ := h4
    have e23 : C 23 1 = Int32.ofNat n := oN_eq t2
    rw [ck_pos (SCr hs.1 0 4 28 rfl), ck_pos (SCr hs.1 0 3 23 rfl), ck_pos (show 0 < S.2.2.2 from i0.1), ck_pos (show 28 < S.2.2.2 ∧ S.2.2.1 28 = 2 from i28)]
    obtain ⟨m, hs', D, hT, hb, hc, fD, rBad, rOk⟩ := s8_read hs.1 t1 e23
    obtain ⟨K, x, k1, k2, k3⟩ := s9_copyT t1 (show nt < 6 by omega) (t3.trans e23) m3
    rw [k1, bd2_eq]
    simp only [lt_eq]
    have k55 : ∀ j, K.1 55 j = M.1 55 j := fun j => k2 55 j (by omega)
    rw [k55, m3, ck_pos (oN_inb (show nt < 6 by omega) (by decide)), oN_cl (show nt < 2147483648 by omega), k55, t3.trans e23]
    have hM : ∃ L, L = wg_sM (wg_sM K 57 nt (Int32.ofNat n)) 55 6 0 := ⟨_, rfl⟩
    obtain ⟨L, hL⟩ := hM
    rw [← hL]
    have fL : ∀ a k, ¬ (a = 56 ∧ 160 * nt ≤ k) → ¬ (a = 57 ∧ k = nt) → ¬ (a = 55 ∧ k = 6) → L.1 a k = M.1 a k := fun a k z1 z2 z3 => by
      have y1 : L.1 a k = (wg_sM K 57 nt (Int32.ofNat n)).1 a k := by
        rw [hL]
        by_cases y : a = 55
        · rw [y]; exact sM_k _ _ (by omega)
        · exact sM_r _ _ _ _ y
      have y2 : (wg_sM K 57 nt (Int32.ofNat n)).1 a k = K.1 a k := by
        by_cases y : a = 57
        · rw [y]; exact sM_k _ _ (by omega)
        · exact sM_r _ _ _ _ y
      rw [y1, y2, k2 a k z1]
    have L57 : L.1 57 nt = Int32.ofNat n := by rw [hL, sM_r _ _ _ _ (by decide), sM_s]
    have L6 : L.1 55 6 = 0 := by rw [hL, sM_s]
    have L56 : ∀ i, i < n → L.1 56 (160 * nt + i) = C 24 i := fun i hi => by
      rw [hL, sM_r _ _ _ _ (by decide), sM_r _ _ _ _ (by decide), k3 i hi]
      exact (t4 i hi).1
    have L3 : L.1 55 3 = Int32.ofNat nt := by rw [fL 55 3 (by omega) (by omega) (by omega)]; exact m3
    have hA : TxA (C 24) n nt L := ⟨by omega, t1, L57, fun i hi => ⟨L56 i hi, (t4 i hi).2⟩⟩
    obtain ⟨C', L', v0, v1, v2, q1, q2, q3, q4, q5⟩ := simRead hT hA hb hc
    rw [L3, q2 0, bd2_eq]
    -- what stays
    have fC : ∀ a k, (a ≤ 22 ∨ 30 < a ∨ a = 24) → C' a k = C a k := fun a k z => by
      rw [q3 a k (by omega) (by omega) (by omega)]
      exact fD a k (by omega) (by omega)
    have fM : ∀ a k, (59 ≤ a ∨ (a = 55 ∧ (k = 3 ∨ k = 4 ∨ k = 13 ∨ k = 14 ∨ k = 38 ∨ k = 39))) → L'.1 a k = M.1 a k := fun a k z => by
      rw [q4 a k (by omega)]
      exact fL a k (by omega) (by omega) (by omega)
    have L'6 : L'.1 55 6 = 0 := by rw [q4 55 6 (by omega)]; exact L6
    have L'56 : ∀ t, t < nt → ∀ i, i < 160 → L'.1 56 (160 * t + i) = M.1 56 (160 * t + i) := fun t ht i hi => by
      rw [q4 56 _ (by omega)]
      exact fL _ _ (by omega) (by omega) (by omega)
    have L'57 : ∀ t, t < nt → L'.1 57 t = M.1 57 t := fun t ht => by
      rw [q4 57 _ (by omega)]
      exact fL _ _ (by omega) (by omega) (by omega)
    rcases q5 with ⟨y1, y2, -⟩ | ⟨p, p1, p2, p3, p4⟩
    · -- a text
      obtain ⟨e0, e1, e2, ok, z1, z2, z3, z4⟩ := simOK hT hb hc q1 y1 hA
      obtain ⟨F, u1, u2, u3, u4⟩ := rOk C' e2 q1 y1 z1 ok.1.2.2
      have xT := shpT_lo S e2
      have hSC := xT.SC hs.1
      have hSM := xT.SM hs.2
      have hn3 := shpT_n S e2
      have htx := shpT_txt S e2
      rw [u1, bd3_eq, ck_pos (show 0 < (shpT S e2).2.2.2 ∧ (shpT S e2).2.2.1 0 = 8 from SCi hSC 0 8 rfl), ck_pos (SCr hSC 0 3 23 rfl), ck_pos (wg_SCb_iff.mpr hSC)]
      unfold f_X5_empty
      simp only [lt_eq]
      rw [bd_eq, ck_pos (show 23 < (shpT S e2).2.2.2 ∧ (shpT S e2).2.2.1 23 = 5 from SCi hSC 23 5 rfl)]
      show ∃ r S1 C1 M1, (ck _ _) = _ ∧ _
      rw [ck_pos (SCr hSC 0 5 31 rfl), ck_pos (show S.2.2.2 < (shpT S e2).2.2.2 ∧ 0 < (shpT S e2).2.2.2 from ⟨by omega, by omega⟩), ck_pos (show 31 < (shpT S e2).2.2.2 ∧ (shpT S e2).2.2.1 31 = 3 from SCi hSC 31 3 rfl)]
      have F31 : F 31 1 = Int32.ofNat nt := by rw [u2 31 1 (by omega), fC 31 1 (by omega)]; exact e31
      have G31 : wg_up F 23 1 0 31 1 = Int32.ofNat nt := by rw [up_r _ _ _ _ (by decide)]; exact F31
      unfold f_X3_add
      rw [ck_pos (show 31 < (shpT S e2).2.2.2 ∧ (shpT S e2).2.2.1 31 = 3 from SCi hSC 31 3 rfl), G31, if_pos (by rw [← e31]; exact lt6), ck_pos (SCr hSC 31 0 32 rfl), ck_pos (show 32 < (shpT S e2).2.2.2 ∧ (shpT S e2).2.2.1 32 = 15 from SCi hSC 32 15 rfl), ck_pos (SCl hSC 32 6 rfl), ck_pos (show S.2.2.2 < (shpT S e2).2.2.2 ∧ (shpT S e2).2.2.1 S.2.2.2 = 6 from htx.1), ck_pos (oN_inb (show nt < 6 by omega) (by decide)), oN_cl (show nt < 2147483648 by omega)]
      simp only [lt_eq]
      rw [ck_pos (show 31 < (wg_sR (shpT S e2) 32 nt (some S.2.2.2)).2.2.2 ∧ (wg_sR (shpT S e2) 32 nt (some S.2.2.2)).2.2.1 31 = 3 from SCi hSC 31 3 rfl), bd3_eq, up_s, oN_s, if_pos y2]
      have hS1 : ∃ S1, S1 = wg_sR (shpT S e2) 32 nt (some S.2.2.2) := ⟨_, rfl⟩
      obtain ⟨S1, hS1⟩ := hS1
      have hC1 : ∃ C1, C1 = wg_up (wg_up F 23 1 0) 31 1 (Int32.ofNat (nt + 1)) := ⟨_, rfl⟩
      obtain ⟨C1, hC1⟩ := hC1
      have hM1 : ∃ M1, M1 = wg_sM L' 55 3 (L'.1 55 3 + 1) := ⟨_, rfl⟩
      obtain ⟨M1, hM1⟩ := hM1
      have L'3 : L'.1 55 3 = Int32.ofNat nt := by rw [fM 55 3 (by omega)]; exact m3
      have M13 : M1.1 55 3 = Int32.ofNat (nt + 1) := by rw [hM1, sM_s, L'3, oN_s]
      have r1 : ∀ a k, ¬ (a = 55 ∧ k = 3) → M1.1 a k = L'.1 a k := fun a k z => by
        rw [hM1]
        by_cases y : a = 55
        · rw [y]; exact sM_k _ _ (by omega)
        · exact sM_r _ _ _ _ y
      have r2 : ∀ a k, ¬ (a = 23 ∧ k = 1) → ¬ (a = 31 ∧ k = 1) → C1 a k = F a k := fun a k z1 z2 => by
        have w1 : C1 a k = wg_up F 23 1 0 a k := by
          rw [hC1]
          by_cases y : a = 31
          · rw [y]; exact up_k _ _ (by omega)
          · exact up_r _ _ _ _ y
        have w2 : wg_up F 23 1 0 a k = F a k := by
          by_cases y : a = 23
          · rw [y]; exact up_k _ _ (by omega)
          · exact up_r _ _ _ _ y
        rw [w1, w2]
      have C131 : C1 31 1 = Int32.ofNat (nt + 1) := by rw [hC1, up_s]
      have C123 : C1 23 1 = 0 := by rw [hC1, up_r _ _ _ _ (by decide), up_s]
      rw [← hS1, ← hC1, ← hM1, M13]
      have S1lo : ∀ x, x ≠ 32 → ∀ k, S1.1 x k = (shpT S e2).1 x k := fun x hx k => by rw [hS1]; exact sR_r _ _ _ _ hx
      have S1n : S1.2 = (shpT S e2).2 := by rw [hS1]; rfl
      have S1txt : ∀ t, wg_Txt (shpT S e2) t → wg_Txt S1 t := fun t ht => by
        have ne : t ≠ 32 := fun z => by
          have := ht.1.2
          rw [z, (SCi hSC 32 15 rfl).2] at this
          omega
        obtain ⟨b1, b2, b3, b4, b5, b6⟩ := ht
        refine ⟨?_, by rw [S1lo _ ne]; exact b2, ?_, by rw [S1lo _ ne]; exact b4, ?_, by rw [S1n]; exact b6⟩
        · unfold wg_id; rw [S1n]; exact b1
        · unfold wg_id; rw [S1n]; exact b3
        · unfold wg_id; rw [S1n]; exact b5
      have hSC1 : wg_SC S1 := by
        obtain ⟨b1, b2, b3⟩ := hSC
        refine ⟨fun a ha => ?_, fun a k b hb => ?_, fun k t hk ht => ?_⟩
        · unfold wg_id; rw [S1n]; exact b1 a ha
        · by_cases y : a = 32
          · rw [y] at hb
            exact absurd hb (by simp [wg_rfC])
          · rw [S1lo _ y]
            exact b2 a k b hb
        · rw [hS1] at ht
          by_cases y : k = nt
          · rw [y, sR_s] at ht
            cases ht
            exact S1txt _ htx
          · rw [sR_k _ _ y] at ht
            exact S1txt _ (b3 k t hk ht)
      have hSM1 : wg_SM S1 := by
        obtain ⟨b1, b2⟩ := hSM
        refine ⟨fun a ha => ?_, fun k b hb => ?_⟩
        · unfold wg_id; rw [S1n]; exact b1 a ha
        · rw [S1lo _ (by decide)]
          exact b2 k b hb
      have hwf1 : wg_wf S1 := by
        rw [hS1]
        exact wg_wf_sR (shpT_wf hw e2) _ _ (fun t ht => by cases ht; rw [hn3]; omega)
      have Fold : ∀ a k, (a ≤ 22 ∨ 30 < a ∨ a = 24) → a < S.2.2.2 → F a k = C a k := fun a k z1 z2 => by
        rw [u2 a k z2]
        exact fC a k z1
      have hIT : IT (nt + 1) S1 C1 M1 := by
        refine ⟨⟨by omega, by omega⟩, by rw [C131, oN_t (by omega)], by rw [M13, C131], fun t ht => ?_⟩
        by_cases y : t = nt
        · subst y
          have hA1 : TxA (C 24) n t M1 := ⟨by omega, t1, by rw [r1 57 t (by omega), q4 57 t (by omega)]; exact L57, fun i hi => ⟨by rw [r1 56 _ (by omega), q4 56 _ (by omega)]; exact L56 i hi, (t4 i hi).2⟩⟩
          refine ITx_new ok (id := S.2.2.2) (by rw [hS1]; exact sR_s _ _ _ _) (by omega) (by rw [S1n]; exact shpT_len S e2) (fun i hi => ?_) ?_ ?_ ?_ hA1
          · rw [r2 _ _ (by omega) (by omega)]
            exact u3 i hi
          · rw [r2 _ _ (by omega) (by omega), u4 0 (by decide)]
            exact z2
          · rw [r2 _ _ (by omega) (by omega), u4 1 (by decide)]
            exact z3
          · rw [r2 _ _ (by omega) (by omega), u4 2 (by decide)]
            exact z4
        · have ht' : t < nt := by omega
          refine (n5 t ht').keep2 hs.1 (by omega) ?_ (fun x hx => ?_) (fun x k hx hx' => ?_) (fun i hi => ?_) ?_
          · rw [hS1, sR_k _ _ y]
            exact (xT.2 32 i32.1).1 t
          · rw [S1n]
            exact (xT.2 x hx).2.1
          · rw [r2 _ _ (by omega) (by omega)]
            exact Fold x k (by omega) hx'
          · rw [r1 56 _ (by omega)]
            exact L'56 t ht' i hi
          · rw [r1 57 _ (by omega)]
            exact L'57 t ht'
      refine ⟨_, S1, C1, M1, rfl, rfl, wInv.T ⟨hSC1, hSM1⟩ (Nat.le_succ nt) h1 h2 h3 h5 h6 (fun a k z => ?_) (fun a k z => ?_) C123 (by rw [r1 55 6 (by omega)]; exact L'6) hIT, hwf1⟩
      · rw [r2 a k (by omega) (by omega)]
        exact Fold a k (by omega) (by omega)
      · rw [r1 a k (by omega)]
        exact fM a k (by omega)
    · -- a fault
      have hne : ¬ C' 28 0 = -1 := by
        rw [p2, i_eq, oN_t (by omega), show (-1 : Int32).toInt = -1 from rfl]
        omega
      rw [rBad C' q1 hne, bd3_eq, ck_pos (show 0 < S.2.2.2 ∧ S.2.2.1 0 = 8 from i0), ck_pos (SCr hs.1 0 3 23 rfl), ck_pos (wg_SCb_iff.mpr hs.1)]
      unfold f_X5_empty
      simp only [lt_eq]
      rw [bd_eq, ck_pos (show 23 < S.2.2.2 ∧ S.2.2.1 23 = 5 from i23)]
      show ∃ r S1 C1 M1, (ck _ _) = _ ∧ _
      rw [ck_pos (SCr hs.1 0 4 28 rfl), ck_pos (show 28 < S.2.2.2 ∧ S.2.2.1 28 = 2 from i28), up_r _ _ _ _ (show 28 ≠ 23 by decide), p2, if_neg (by rw [p3]; decide), p4]
      have hIT : IT nt S (wg_up C' 23 1 0) L' := by
        refine ⟨⟨n1, n2⟩, ?_, ?_, fun t ht => ?_⟩
        · rw [up_r _ _ _ _ (by decide), fC 31 1 (by omega)]
          exact n3
        · rw [up_r _ _ _ _ (by decide), fC 31 1 (by omega), fM 55 3 (by omega)]
          exact n4
        · refine (n5 t ht).keep2 hs.1 (by omega) rfl (fun _ _ => rfl) (fun x k hx hx' => ?_) (fun i hi => L'56 t ht i hi) (L'57 t ht)
          rw [up_r _ _ _ _ (by omega)]
          exact fC x k (by omega)
      refine ⟨_, S, wg_up C' 23 1 0, L', rfl, rfl, wInv.T hs (Nat.le_refl nt) h1 h2 h3 h5 h6 (fun a k z => ?_) (fun a k z => fM a k (by omega)) (up_s _ _ _ _) L'6 hIT, hw⟩
      rw [up_r _ _ _ _ (by omega)]
      exact fC a k (by omega)
