set_option maxRecDepth 100000 in
theorem wl_le : ∀ j : Nat, j < 12 → 1 ≤ wl j ∧ wl j ≤ 7 := by decide +kernel
set_option maxRecDepth 100000 in
theorem sp_j : ∀ j : Nat, j < 12 → f_X5_spelling (Int32.ofNat j) = some (j + 1) := by decide +kernel
set_option maxRecDepth 100000 in
theorem ln_j : ∀ j : Nat, j < 12 → f_J0_length_8abf5 (j + 1) = some (Int32.ofNat (wl j)) := by decide +kernel
def chOk (j i : Nat) : Bool := decide (f_J1_charAt_3b067 (j + 1) (Int32.ofNat i) = some (wb j i)) && decide ((wb j i).toUInt32.toUInt16.toUInt32.toInt32 = wb j i)
set_option maxRecDepth 100000 in
theorem ch_j : ∀ j : Nat, j < 12 → ∀ i : Nat, i < wl j → chOk j i = true := by decide +kernel
theorem ch_at {j i : Nat} (hj : j < 12) (hi : i < wl j) : f_J0_charAt_5068e (j + 1) (Int32.ofNat i) = some (wb j i) := by
  have h := ch_j j hj i hi
  unfold chOk at h
  simp only [Bool.and_eq_true, decide_eq_true_eq] at h
  unfold f_J0_charAt_5068e
  rw [show f_J0_isLatin1_aae02 (j + 1) = some 1 from rfl, bd_eq, if_neg (by decide), h.1, bd_eq, ck_pos]
  show Value.int (wb j i).toUInt32.toUInt16.toUInt32.toInt32 = Value.int (wb j i)
  rw [h.2]
theorem s8_stands {C : wg_C} {p e j : Nat} (hj : j < 12) (he : e ≤ 160) (hpe : p < e) (h2 : C 23 2 = Int32.ofNat e) : ∃ v, f_X5_stands NN C (j + 1) (Int32.ofNat p) = some v ∧ ((v = 1 ∧ Spl (C 24) p e j) ∨ (v = 0 ∧ ¬ Spl (C 24) p e j)) := by
  obtain ⟨w1, w2⟩ := wl_le j hj
  unfold f_X5_stands
  rw [ln_j j hj, bd_eq, h2]
  have c1 : Int32.ofNat e - Int32.ofNat p = Int32.ofNat (wl j) ↔ e = p + wl j := by
    rw [i_eq, i_sub, oN_t (by omega), oN_t (by omega), oN_t (by omega)]
    omega
  by_cases g : e = p + wl j
  · rw [if_pos (c1.mpr g)]
    obtain ⟨r, e1, e2⟩ := lp_ok (b := fun o => f_X5_stands_l17 NN (j + 1) C (Int32.ofNat p) o) (fun q => ∃ i, i ≤ wl j ∧ q = Int32.ofNat i ∧ ∀ k, k < i → C 24 (p + k) = wb j k) (fun q => 160 - q.toInt.toNat) (fun r => ((∃ z, r = .inl z) ∧ Spl (C 24) p e j) ∨ (r = .inr 0 ∧ ¬ Spl (C 24) p e j)) (by
      rintro q ⟨i, hi, rfl, j1⟩
      simp only [f_X5_stands_l17, ln_j j hj, bd_eq, oN_le (show i < 2147483648 by omega) (show wl j < 2147483648 by omega), lt_eq]
      by_cases g1 : wl j ≤ i
      · right
        rw [if_pos g1]
        exact ⟨_, rfl, Or.inl ⟨⟨_, rfl⟩, g, fun k hk => j1 k (by omega)⟩⟩
      · have ea : Int32.ofNat p + Int32.ofNat i = Int32.ofNat (p + i) := (Int32.ofNat_add p i).symm
        rw [if_neg g1, ea, ck_pos (oN_inb (show p + i < 160 by omega) (by decide)), ch_at hj (show i < wl j by omega), bd_eq, oN_cl (show p + i < 2147483648 by omega)]
        by_cases g2 : C 24 (p + i) = wb j i
        · left
          rw [if_pos g2]
          refine ⟨_, rfl, ⟨i + 1, by omega, oN_s i, fun k hk => ?_⟩, ?_⟩
          · by_cases z : k = i
            · rw [z]; exact g2
            · exact j1 k (by omega)
          · rw [oN_s, oN_t (by omega), oN_t (by omega)]
            omega
        · right
          rw [if_neg g2]
          exact ⟨_, rfl, Or.inr ⟨rfl, fun z => g2 (z.2 i (by omega))⟩⟩) NN 0 ⟨0, by omega, rfl, fun k hk => absurd hk (Nat.not_lt_zero _)⟩ (by have := NN_big; show 160 - _ < NN; omega)
    rw [e1]
    rcases e2 with ⟨⟨z, rfl⟩, a⟩ | ⟨rfl, a⟩
    · exact ⟨_, rfl, Or.inl ⟨rfl, a⟩⟩
    · exact ⟨_, rfl, Or.inr ⟨rfl, a⟩⟩
  · rw [if_neg (fun z => g (c1.mp z))]
    exact ⟨_, rfl, Or.inr ⟨rfl, fun z => g z.1⟩⟩
theorem s8_word {C : wg_C} {n p k : Nat} (hn : n ≤ 160) (hp : p < n) (hl : Ltr (C 24 p)) (h1 : C 23 1 = Int32.ofNat n) (h2 : C 23 2 = Int32.ofNat p) (hk : k < 161) (h6 : C 23 6 = Int32.ofNat k) : ∃ e v D, f_X5_cutWord NN C = some (v, D) ∧ (∀ a j, ¬ (a = 23 ∧ j = 2) → ¬ (a = 26 ∧ j = k) → D a j = C a j) ∧ D 23 2 = Int32.ofNat e ∧ Run Ltr (C 24) n p e ∧ ((∃ j, j < 12 ∧ Spl (C 24) p e j ∧ v = tkW j ∧ D 26 k = Int32.ofNat j) ∨ (v = -2 ∧ ∀ j, j < 12 → ¬ Spl (C 24) p e j)) := by
  unfold f_X5_cutWord
  obtain ⟨e, D, e1, e2, e3, e4⟩ := s8_letters hn hp hl h1 h2 (C 23 2)
  simp only [lt_eq]
  rw [e1, bd_eq, h2]
  have d24 : ∀ q, D 24 q = C 24 q := fun q => e2 _ _ (by omega)
  have hS : ∀ j, Spl (D 24) p e j ↔ Spl (C 24) p e j := fun j => by unfold Spl; simp only [d24]
  have he := e4.2.1
  have hpe := e4.1
  obtain ⟨r, u1, u2⟩ := lp_ok (b := fun (o : wg_C × Int32) => f_X5_cutWord_l46 NN (Int32.ofNat p) o.1 o.2) (fun q => q.1 = D ∧ ∃ j, j ≤ 12 ∧ q.2 = Int32.ofNat j ∧ ∀ i, i < j → ¬ Spl (C 24) p e i) (fun q => 12 - q.2.toInt.toNat) (fun r => (∃ z, r = .inl (D, z) ∧ ∀ j, j < 12 → ¬ Spl (C 24) p e j) ∨ ∃ j, j < 12 ∧ Spl (C 24) p e j ∧ r = .inr (tkW j, wg_up D 26 k (Int32.ofNat j))) (by
    rintro ⟨D', q⟩ ⟨j0, j, hj, j1, j2⟩
    simp only at j0 j1
    subst j0 j1
    have g0 : (12 : Int32) ≤ Int32.ofNat j ↔ 12 ≤ j := oN_le (show j < 2147483648 by omega) (show 12 < 2147483648 by omega)
    simp only [f_X5_cutWord_l46, g0, lt_eq]
    by_cases g : 12 ≤ j
    · right
      rw [if_pos g]
      exact ⟨_, rfl, Or.inl ⟨_, rfl, fun i hi => j2 i (by omega)⟩⟩
    · have hj' : j < 12 := by omega
      have d6 : D' 23 6 = Int32.ofNat k := by rw [e2 _ _ (by decide)]; exact h6
      obtain ⟨v, v1, v2⟩ := s8_stands (C := D') hj' (show e ≤ 160 by omega) hpe e3
      rw [if_neg g, sp_j j hj', bd_eq, ck_pos (show j + 1 < 13 by omega), v1, bd_eq]
      simp only [d6]
      rw [ck_pos (oN_inb hk (by decide)), oN_cl (show k < 2147483648 by omega)]
      rcases v2 with ⟨rfl, a⟩ | ⟨rfl, a⟩
      · right
        rw [if_neg (by decide)]
        have g6 : (6 : Int32) ≤ Int32.ofNat j ↔ 6 ≤ j := oN_le (show j < 2147483648 by omega) (show 6 < 2147483648 by omega)
        by_cases g7 : 6 ≤ j
        · rw [if_pos (g6.mpr g7)]
          refine ⟨_, rfl, Or.inr ⟨j, hj', (hS j).mp a, ?_⟩⟩
          have : (3 : Int32) + Int32.ofNat j - 6 = tkW j := by
            unfold tkW
            rw [if_neg (by omega), i_eq, i_sub, i_add, oN_t (by omega), oN_t (by omega), show (3 : Int32).toInt = 3 from rfl, show (6 : Int32).toInt = 6 from rfl]
            omega
          rw [this]
        · rw [if_neg (fun z => g7 (g6.mp z))]
          refine ⟨_, rfl, Or.inr ⟨j, hj', (hS j).mp a, ?_⟩⟩
          unfold tkW
          rw [if_pos (by omega)]
      · left
        rw [if_pos rfl]
        refine ⟨_, rfl, ⟨rfl, j + 1, by omega, oN_s j, fun i hi => ?_⟩, ?_⟩
        · by_cases z : i = j
          · rw [z]; exact fun z => a ((hS j).mpr z)
          · exact j2 i (by omega)
        · rw [oN_s, oN_t (by omega), oN_t (by omega)]
          omega) NN (D, 0) ⟨rfl, 0, by omega, rfl, fun i hi => absurd hi (Nat.not_lt_zero _)⟩ (by have := NN_big; show 12 - _ < NN; omega)
  rw [u1]
  rcases u2 with ⟨z, rfl, a⟩ | ⟨j, a1, a2, rfl⟩
  · exact ⟨e, _, D, rfl, fun a j q _ => e2 a j q, e3, e4, Or.inr ⟨rfl, a⟩⟩
  · refine ⟨e, _, _, rfl, fun a i q1 q2 => ?_, by rw [up_r _ _ _ _ (by decide)]; exact e3, e4, Or.inl ⟨j, a1, a2, rfl, up_s _ _ _ _⟩⟩
    by_cases z : a = 26
    · rw [z, up_k _ _ (fun y => q2 ⟨z, y⟩), ← z]; exact e2 a i q1
    · rw [up_r _ _ _ _ z]; exact e2 a i q1
/-- a token, when blanks are skipped -/
theorem s8_one {C : wg_C} {n h p k : Nat} (hn : n ≤ 160) (hb : h ≤ p ∧ p ≤ n ∧ (∀ q, h ≤ q → q < p → Blk (C 24 q)) ∧ (p = n ∨ ¬ Blk (C 24 p))) (h1 : C 23 1 = Int32.ofNat n) (h2 : C 23 2 = Int32.ofNat p) (hk : k < 161) (h6 : C 23 6 = Int32.ofNat k) : ∃ e v D, f_X5_cutOne NN C = some (v, D) ∧ (∀ a j, ¬ (a = 23 ∧ j = 2) → ¬ (a = 26 ∧ j = k) → D a j = C a j) ∧ D 23 2 = Int32.ofNat e ∧ Tk (C 24) n h v (D 26 k) p e ∧ e ≤ n ∧ p ≤ e ∧ (v ≠ -1 → p < e) := by
  have hpn := hb.2.1
  unfold f_X5_cutOne
  rw [h1, h2]
  by_cases g : p < n
  · rw [if_pos ((oN_lt (show n < 2147483648 by omega) (show p < 2147483648 by omega)).mpr g), ck_pos (oN_inb (show p < 160 by omega) (by decide)), ck_pos (oN_inb (show p < 160 by omega) (by decide)), ck_pos (oN_inb (show p < 160 by omega) (by decide)), oN_cl (show p < 2147483648 by omega)]
    simp only [lt_eq]
    obtain ⟨v, v1, ⟨rfl, v2⟩ | ⟨rfl, v2⟩⟩ := s8_ltr (C 24 p)
    · rw [v1, bd_eq, if_neg (by decide)]
      obtain ⟨e, v, D, e1, e2, e3, e4, e5⟩ := s8_word hn g v2 h1 h2 hk h6
      rw [e1, bd2_eq]
      exact ⟨e, v, D, rfl, e2, e3, ⟨hb, Or.inr (Or.inl ⟨g, v2, e4, e5⟩)⟩, e4.2.1, Nat.le_of_lt e4.1, fun _ => e4.1⟩
    · rw [v1, bd_eq, if_pos rfl]
      obtain ⟨u, u1, ⟨rfl, u2⟩ | ⟨rfl, u2⟩⟩ := s8_dgt (C 24 p)
      · rw [u1, bd_eq, if_neg (by decide)]
        obtain ⟨e, v, D, e1, e2, e3, e4, e5⟩ := s8_number hn g u2 h1 h2 hk h6
        rw [e1, bd2_eq]
        exact ⟨e, v, D, rfl, e2, e3, ⟨hb, Or.inr (Or.inr (Or.inl ⟨g, u2, e4, e5⟩))⟩, e4.2.1, Nat.le_of_lt e4.1, fun _ => e4.1⟩
      · rw [u1, bd_eq, if_pos rfl]
        have fr : ∀ a j, ¬ (a = 23 ∧ j = 2) → ¬ (a = 26 ∧ j = k) → wg_up C 23 2 (Int32.ofNat p + 1) a j = C a j := fun a j q1 _ => (atF.rfl C).up _ a j q1
        obtain ⟨x, x1, ⟨rfl, x2⟩ | ⟨rfl, x2⟩⟩ := s8_sgn (C 24 p)
        · rw [x1, bd_eq, if_neg (by decide)]
          exact ⟨p + 1, _, _, rfl, fr, by rw [up_s, oN_s], ⟨hb, Or.inr (Or.inr (Or.inr (Or.inl ⟨g, x2, rfl, rfl⟩)))⟩, by omega, by omega, fun _ => by omega⟩
        · rw [x1, bd_eq, if_pos rfl]
          exact ⟨p + 1, _, _, rfl, fr, by rw [up_s, oN_s], ⟨hb, Or.inr (Or.inr (Or.inr (Or.inr ⟨g, ⟨v2, u2, x2⟩, rfl, rfl⟩)))⟩, by omega, by omega, fun _ => by omega⟩
  · rw [if_neg (fun z => g ((oN_lt (show n < 2147483648 by omega) (show p < 2147483648 by omega)).mp z))]
    exact ⟨p, _, C, rfl, fun _ _ _ _ => rfl, h2, ⟨hb, Or.inl ⟨by omega, rfl, rfl⟩⟩, hpn, Nat.le_refl _, fun z => absurd rfl z⟩
/-- the tokens of a tape: m of them, the last is the end, or broken -/
def Toks (f : Nat → Int32) (n m : Nat) (hs : Nat → Nat) (T V Pl : Nat → Int32) : Prop := (1 ≤ m ∧ m ≤ 161) ∧ hs 0 = 0 ∧ (∀ k, k < m → ∃ p, p ≤ 160 ∧ Pl k = Int32.ofNat p ∧ Tk f n (hs k) (T k) (V k) p (hs (k + 1))) ∧ (∀ k, k + 1 < m → T k ≠ -1 ∧ T k ≠ -2) ∧ (T (m - 1) = -1 ∨ T (m - 1) = -2) ∧ ∀ k, k ≤ m → hs k ≤ n
def cutF (C D : wg_C) : Prop := ∀ a k, ¬ (a = 23 ∧ (k = 2 ∨ k = 6)) → a ≠ 25 → a ≠ 26 → a ≠ 27 → D a k = C a k
theorem s8_cut {C : wg_C} {n : Nat} (hn : n ≤ 160) (h1 : C 23 1 = Int32.ofNat n) : ∃ D m hs, f_X5_cut NN C = some D ∧ cutF C D ∧ D 23 6 = Int32.ofNat m ∧ Toks (C 24) n m hs (D 25) (D 26) (D 27) := by
  unfold f_X5_cut
  simp only [lt_eq]
  have i1 : cutF C (wg_up (wg_up C 23 2 0) 23 6 0) := fun a k q1 q2 q3 q4 => by
    by_cases z : a = 23
    · rw [z, up_k _ _ (by omega), up_k _ _ (by omega)]
    · rw [up_r _ _ _ _ z, up_r _ _ _ _ z]
  have i2 : wg_up (wg_up C 23 2 0) 23 6 0 23 6 = Int32.ofNat 0 := up_s _ _ _ _
  have i3 : wg_up (wg_up C 23 2 0) 23 6 0 23 2 = Int32.ofNat 0 := by rw [up_k _ _ (by decide), up_s]; rfl
  obtain ⟨⟨D, x⟩, e1, m, hs, e2⟩ := lp_ok (b := fun (o : wg_C × Int32) => f_X5_cut_l12 NN o.1 o.2) (fun q => cutF C q.1 ∧ ∃ k hs, k ≤ 161 ∧ q.1 23 6 = Int32.ofNat k ∧ q.1 23 2 = Int32.ofNat (hs k) ∧ hs 0 = 0 ∧ (∀ j, j ≤ k → hs j ≤ n) ∧ (∀ j, j < k → ∃ p, p ≤ 160 ∧ q.1 27 j = Int32.ofNat p ∧ Tk (C 24) n (hs j) (q.1 25 j) (q.1 26 j) p (hs (j + 1))) ∧ (∀ j, j + 1 < k → q.1 25 j ≠ -1 ∧ q.1 25 j ≠ -2) ∧ (k = 0 → q.2 = 0) ∧ (1 ≤ k → q.1 25 (k - 1) = q.2) ∧ (k ≤ hs k ∨ q.2 = -1 ∨ q.2 = -2)) (fun q => 161 - (q.1 23 6).toInt.toNat) (fun q => ∃ m hs, cutF C q.1 ∧ q.1 23 6 = Int32.ofNat m ∧ Toks (C 24) n m hs (q.1 25) (q.1 26) (q.1 27)) (by
    rintro ⟨D, x⟩ ⟨j0, k, hs, hk, j1, j2, j3, j4, j5, j6, j6', j7, j8⟩
    simp only at j0 j1 j2 j5 j6 j6' j7 j8
    have g0 : (160 : Int32) < Int32.ofNat k ↔ 160 < k := oN_lt (show k < 2147483648 by omega) (show 160 < 2147483648 by omega)
    simp only [f_X5_cut_l12, j1, g0, lt_eq]
    have hend : (x = -1 ∨ x = -2) → ∃ m hs, cutF C D ∧ D 23 6 = Int32.ofNat m ∧ Toks (C 24) n m hs (D 25) (D 26) (D 27) := fun hx => by
      have k1 : 1 ≤ k := by
        by_cases z : k = 0
        · rw [j6' z] at hx
          rcases hx with z | z <;> exact absurd z (by decide)
        · omega
      exact ⟨k, hs, j0, j1, ⟨k1, hk⟩, j3, j5, j6, by rw [j7 k1]; exact hx, j4⟩
    by_cases g : 160 < k
    · right
      rw [if_pos g]
      refine ⟨_, rfl, hend ?_⟩
      have := j4 k (Nat.le_refl _)
      exact j8.resolve_left (by omega)
    · rw [if_neg g]
      by_cases g1 : x = -1
      · right
        rw [if_pos g1]
        exact ⟨_, rfl, hend (Or.inl g1)⟩
      · rw [if_neg g1]
        by_cases g2 : x = -2
        · right
          rw [if_pos g2]
          exact ⟨_, rfl, hend (Or.inr g2)⟩
        · left
          rw [if_neg g2]
          have j8' : k ≤ hs k := j8.resolve_right (fun z => z.elim g1 g2)
          have d1 : D 23 1 = Int32.ofNat n := by rw [j0 _ _ (by decide) (by decide) (by decide) (by decide)]; exact h1
          have d24 : D 24 = C 24 := by funext q; exact j0 _ _ (by omega) (by decide) (by decide) (by decide)
          obtain ⟨p, E, u1, u2, u3, u4, u5, u6, u7⟩ := s8_skip hn (j4 k (Nat.le_refl _)) d1 j2
          have e6 : E 23 6 = Int32.ofNat k := by rw [u2 _ _ (by decide)]; exact j1
          rw [u1, bd_eq, e6, ck_pos (oN_inb (show k < 161 by omega) (by decide)), oN_cl (show k < 2147483648 by omega), u3, up_r _ _ _ _ (show 23 ≠ 27 by decide), e6, ck_pos (oN_inb (show k < 161 by omega) (by decide)), oN_cl (show k < 2147483648 by omega)]
          have hE : ∃ E2, E2 = wg_up (wg_up E 27 k (Int32.ofNat p)) 26 k 0 := ⟨_, rfl⟩
          obtain ⟨E2, hE⟩ := hE
          rw [← hE]
          have f23 : ∀ j, E2 23 j = E 23 j := fun j => by rw [hE, up_r _ _ _ _ (by decide), up_r _ _ _ _ (by decide)]
          have f24 : E2 24 = C 24 := by
            funext q
            rw [hE, up_r _ _ _ _ (by decide), up_r _ _ _ _ (by decide), u2 _ _ (by omega), d24]
          rw [d24] at u6 u7
          obtain ⟨e, v, F, v1, v2, v3, v4, v5, v6, v7⟩ := s8_one (C := E2) (h := hs k) (p := p) (k := k) hn (by rw [f24]; exact ⟨u4, u5, u6, u7⟩) (by rw [f23, u2 _ _ (by decide)]; exact d1) (by rw [f23]; exact u3) (by omega) (by rw [f23]; exact e6)
          have F6 : F 23 6 = Int32.ofNat k := by rw [v2 _ _ (by omega) (by omega), f23]; exact e6
          rw [v1, bd2_eq, F6, ck_pos (oN_inb (show k < 161 by omega) (by decide)), oN_cl (show k < 2147483648 by omega), up_r _ _ _ _ (show 23 ≠ 25 by decide), F6]
          rw [f24] at v4
          have G : ∀ a j, ¬ (a = 23 ∧ (j = 2 ∨ j = 6)) → (a ≠ 25 ∨ j ≠ k) → (a ≠ 26 ∨ j ≠ k) → (a ≠ 27 ∨ j ≠ k) → wg_up (wg_up F 25 k v) 23 6 (Int32.ofNat k + 1) a j = D a j := fun a j q1 q2 q3 q4 => by
            have z1 : wg_up (wg_up F 25 k v) 23 6 (Int32.ofNat k + 1) a j = wg_up F 25 k v a j := by
              by_cases z : a = 23
              · rw [z]; exact up_k _ _ (by omega)
              · exact up_r _ _ _ _ z
            have z2 : wg_up F 25 k v a j = F a j := by
              by_cases z : a = 25
              · rw [z]; exact up_k _ _ (by omega)
              · exact up_r _ _ _ _ z
            have z3 : F a j = E2 a j := v2 a j (by omega) (by omega)
            have z4 : E2 a j = wg_up E 27 k (Int32.ofNat p) a j := by
              rw [hE]
              by_cases z : a = 26
              · rw [z]; exact up_k _ _ (by omega)
              · exact up_r _ _ _ _ z
            have z5 : wg_up E 27 k (Int32.ofNat p) a j = E a j := by
              by_cases z : a = 27
              · rw [z]; exact up_k _ _ (by omega)
              · exact up_r _ _ _ _ z
            rw [z1, z2, z3, z4, z5, u2 a j (by omega)]
          have T25 : wg_up (wg_up F 25 k v) 23 6 (Int32.ofNat k + 1) 25 k = v := by rw [up_r _ _ _ _ (by decide), up_s]
          have T26 : wg_up (wg_up F 25 k v) 23 6 (Int32.ofNat k + 1) 26 k = F 26 k := by rw [up_r _ _ _ _ (by decide), up_r _ _ _ _ (by decide)]
          have T27 : wg_up (wg_up F 25 k v) 23 6 (Int32.ofNat k + 1) 27 k = Int32.ofNat p := by
            rw [up_r _ _ _ _ (by decide), up_r _ _ _ _ (by decide), v2 _ _ (by omega) (by omega), hE, up_r _ _ _ _ (by decide), up_s]
          have hne : ∀ j, j ≠ k → (∀ a, a = 25 ∨ a = 26 ∨ a = 27 → wg_up (wg_up F 25 k v) 23 6 (Int32.ofNat k + 1) a j = D a j) := fun j q a qa => G a j (by omega) (Or.inr q) (Or.inr q) (Or.inr q)
          refine ⟨_, rfl, ⟨fun a j q1 q2 q3 q4 => (G a j q1 (Or.inl q2) (Or.inl q3) (Or.inl q4)).trans (j0 a j q1 q2 q3 q4), k + 1, fun j => if j = k + 1 then e else hs j, by omega, by show wg_up (wg_up F 25 k v) 23 6 (Int32.ofNat k + 1) 23 6 = _; rw [up_s, oN_s], ?_, ?_, fun j hj => ?_, fun j hj => ?_, fun j hj => ?_, fun z => absurd z (by omega), fun _ => ?_, ?_⟩, ?_⟩
          · show wg_up (wg_up F 25 k v) 23 6 (Int32.ofNat k + 1) 23 2 = Int32.ofNat (if k + 1 = k + 1 then e else hs (k + 1))
            rw [if_pos rfl, up_k _ _ (by decide), up_r _ _ _ _ (by decide)]
            exact v3
          · show (if 0 = k + 1 then e else hs 0) = 0
            rw [if_neg (by omega)]
            exact j3
          · show (if j = k + 1 then e else hs j) ≤ n
            by_cases z : j = k + 1
            · rw [if_pos z]; exact v5
            · rw [if_neg z]; exact j4 j (by omega)
          · show ∃ p, p ≤ 160 ∧ wg_up (wg_up F 25 k v) 23 6 (Int32.ofNat k + 1) 27 j = Int32.ofNat p ∧ Tk (C 24) n (if j = k + 1 then e else hs j) (wg_up (wg_up F 25 k v) 23 6 (Int32.ofNat k + 1) 25 j) (wg_up (wg_up F 25 k v) 23 6 (Int32.ofNat k + 1) 26 j) p (if j + 1 = k + 1 then e else hs (j + 1))
            by_cases z : j = k
            · subst z
              rw [T25, T26, T27, if_neg (by omega), if_pos rfl]
              exact ⟨p, by omega, rfl, v4⟩
            · rw [hne j z 25 (by omega), hne j z 26 (by omega), hne j z 27 (by omega), if_neg (by omega), if_neg (by omega)]
              exact j5 j (by omega)
          · show wg_up (wg_up F 25 k v) 23 6 (Int32.ofNat k + 1) 25 j ≠ -1 ∧ wg_up (wg_up F 25 k v) 23 6 (Int32.ofNat k + 1) 25 j ≠ -2
            rw [hne j (by omega) 25 (by omega)]
            by_cases z : j + 1 < k
            · exact j6 j z
            · have q := j7 (by omega)
              rw [show k - 1 = j by omega] at q
              rw [q]
              exact ⟨g1, g2⟩
          · show wg_up (wg_up F 25 k v) 23 6 (Int32.ofNat k + 1) 25 (k + 1 - 1) = v
            rw [Nat.add_sub_cancel]
            exact T25
          · show k + 1 ≤ (if k + 1 = k + 1 then e else hs (k + 1)) ∨ v = -1 ∨ v = -2
            rw [if_pos rfl]
            by_cases z : v = -1
            · exact Or.inr (Or.inl z)
            · have := v7 z
              exact Or.inl (by omega)
          · show 161 - (wg_up (wg_up F 25 k v) 23 6 (Int32.ofNat k + 1) 23 6).toInt.toNat < 161 - (Int32.ofNat k).toInt.toNat
            rw [up_s, oN_s, oN_t (by omega), oN_t (by omega)]
            omega) NN (wg_up (wg_up C 23 2 0) 23 6 0, 0) ⟨i1, 0, fun _ => 0, by omega, i2, i3, rfl, fun j _ => Nat.zero_le _, fun j hj => absurd hj (Nat.not_lt_zero _), fun j hj => by omega, fun _ => rfl, fun z => absurd z (by omega), Or.inl (Nat.le_refl _)⟩ (by have := NN_big; show 161 - _ < NN; omega)
  rw [e1, bd2_eq]
  exact ⟨D, m, hs, rfl, e2⟩
