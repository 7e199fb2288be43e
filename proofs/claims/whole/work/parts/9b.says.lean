/-- a text by its cell and its value -/
def TxI (S : wg_Sh) (C : wg_C) (M : wg_M) (t id : Nat) (val : Int32 → Int32 → Int32 → Int32 → Int32 → Int32 → Int32 → Int32) : Prop := S.1 32 t = some id ∧ 52 ≤ id ∧ (∀ D : wg_C, (∀ k, D (id + 1) k = C (id + 1) k) → (∀ k, D (id + 2) k = C (id + 2) k) → ∀ w : Int32, 0 ≤ w.toInt → w.toInt < 3 → ∃ D1 : wg_C, f_X3_reckon NN S D id w = some (val w (D 33 0) (D 33 1) (D 33 2) (D 33 3) (D 33 4) (D 33 5), D1) ∧ ∀ a k, a ≠ 34 → D1 a k = D a k) ∧ (∀ L : wg_M, (∀ i, i < 160 → L.1 56 (160 * t + i) = M.1 56 (160 * t + i)) → L.1 57 t = M.1 57 t → ∀ w : Int32, 0 ≤ w.toInt → w.toInt < 3 → ∃ L1 : wg_M, f_X9_read NN L (Int32.ofNat t) w = some (val w (L.1 55 15) (L.1 55 16) (L.1 55 17) (L.1 55 18) (L.1 55 19) (L.1 55 20), L1) ∧ ∀ a k, a ≠ 55 ∨ k ≤ 20 ∨ 30 ≤ k → L1.1 a k = L.1 a k)
theorem TxI.of {S : wg_Sh} {C : wg_C} {M : wg_M} {t : Nat} (h : ITx S C M t) : ∃ id val, TxI S C M t id val := h
theorem TxI.keep {S : wg_Sh} {C D : wg_C} {M L : wg_M} {t id : Nat} {val : Int32 → Int32 → Int32 → Int32 → Int32 → Int32 → Int32 → Int32} (h : TxI S C M t id val) (hD : ∀ a k, 52 ≤ a → D a k = C a k) (h56 : ∀ k, L.1 56 k = M.1 56 k) (h57 : ∀ k, L.1 57 k = M.1 57 k) : TxI S D L t id val := by
  obtain ⟨q1, q2, q3, q4⟩ := h
  refine ⟨q1, q2, fun E e1 e2 w w1 w2 => ?_, fun E e1 e2 w w1 w2 => ?_⟩
  · exact q3 E (fun k => by rw [e1, hD _ _ (by omega)]) (fun k => by rw [e2, hD _ _ (by omega)]) w w1 w2
  · exact q4 E (fun k hk => by rw [e1 k hk, h56]) (by rw [e2, h57]) w w1 w2
def clampV (lo r : Int32) : Int32 := if lo ≤ r then (if r ≤ 99 then r else 99) else lo
theorem clamp8 (lo r : Int32) (h : lo = 0 ∨ lo = 1) (k : Int32 → Option (Int32 × wg_C)) : (bd (f_J9_min_7cf53 (99 : Int32) r) fun r37 => bd (f_J9_max_7cf53 lo r37) fun r39 => k r39) = k (clampV lo r) := by
  have hl : lo.toInt = 0 ∨ lo.toInt = 1 := by rcases h with rfl | rfl <;> decide
  unfold f_J9_min_7cf53 f_J9_max_7cf53 clampV
  simp only [i_lt, i_le, show (99 : Int32).toInt = 99 from rfl]
  by_cases a1 : r.toInt < 99
  · by_cases a2 : lo.toInt < r.toInt
    · rw [if_pos a1, bd_eq, if_pos a2, if_pos (by omega), if_pos (by omega)]; rfl
    · rw [if_pos a1, bd_eq, if_neg a2]
      by_cases a3 : lo.toInt ≤ r.toInt
      · have : r = lo := (i_eq _ _).mpr (by omega)
        rw [if_pos a3, if_pos (by omega), this]; rfl
      · rw [if_neg a3]; rfl
  · rw [if_neg a1, bd_eq, if_pos (by show lo.toInt < 99; omega), if_pos (by omega)]
    by_cases a3 : r.toInt ≤ 99
    · have : r = 99 := (i_eq _ _).mpr (by show r.toInt = 99; omega)
      rw [if_pos a3, this]; rfl
    · rw [if_neg a3]; rfl
theorem clamp9 (lo r : Int32) : f_X9_within r lo 99 = some (clampV lo r) := by
  unfold f_X9_within clampV
  repeat' split
  all_goals rfl
theorem clamp_b (lo r : Int32) (h : lo = 0 ∨ lo = 1) : lo.toInt ≤ (clampV lo r).toInt ∧ (clampV lo r).toInt ≤ 99 := by
  have hl : lo.toInt = 0 ∨ lo.toInt = 1 := by rcases h with rfl | rfl <;> decide
  unfold clampV
  simp only [i_le, show (99 : Int32).toInt = 99 from rfl]
  by_cases a1 : lo.toInt ≤ r.toInt
  · rw [if_pos a1]
    by_cases a2 : r.toInt ≤ 99
    · rw [if_pos a2]; omega
    · rw [if_neg a2]
      show _ ≤ (99 : Int) ∧ (99 : Int) ≤ 99
      omega
  · rw [if_neg a1]; omega
/-- what the rule says of a pane on a day -/
def saysV (val : Int32 → Int32 → Int32 → Int32 → Int32 → Int32 → Int32 → Int32) (B : wg_C) (p : Int32) (d w : Int32) : Int32 := clampV (if w = 0 then 1 else 0) (val w d (B (4 + p.toNatClampNeg) 3) (B (4 + p.toNatClampNeg) 2) (if rg 32 (onP B (4 + p.toNatClampNeg) d) = true then B 2 (onP B (4 + p.toNatClampNeg) d).toNatClampNeg else 0) p (B (4 + p.toNatClampNeg) 4))
theorem says_b (val : Int32 → Int32 → Int32 → Int32 → Int32 → Int32 → Int32 → Int32) (B : wg_C) (p : Int32) (d w : Int32) : (if w = 0 then 1 else 0) ≤ (saysV val B p d w).toInt ∧ (saysV val B p d w).toInt ≤ 99 := by
  unfold saysV
  by_cases h : w = 0
  · rw [if_pos h, if_pos h]; exact clamp_b 1 _ (Or.inr rfl)
  · rw [if_neg h, if_neg h]; exact clamp_b 0 _ (Or.inl rfl)
/-- the house B is seen in D, its days in row q -/
def vwC (B D : wg_C) (q : Nat) : Prop := (∀ a k, a = 1 ∨ (4 ≤ a ∧ a ≤ 11) → D a k = B a k) ∧ ∀ d, d < 32 → D q d = B 2 d
theorem worth8 {np : Nat} {S : wg_Sh} {B D : wg_C} {M N : wg_M} {q t id nt : Nat} {val : Int32 → Int32 → Int32 → Int32 → Int32 → Int32 → Int32 → Int32} (h : IHo np B M) (hv : vwC B D q) (hq : q ≠ 33) (ht : TxI S D N t id val) (h1 : (D 1 3).toInt = t) (hnt : t < nt) (hnt6 : nt ≤ 6) (h31 : (D 31 1).toInt = nt) {p : Int32} (hp : rg np p = true) (d : Int32) {w : Int32} (hw : rg 3 w = true) : ∃ D1, f_X3_worth NN S D (D 1 3) w (4 + p.toNatClampNeg) d q 32 = some (saysV val B p d w, D1) ∧ ∀ a k, a ≠ 33 → a ≠ 34 → D1 a k = D a k := by
  obtain ⟨q1, q2, q3, q4⟩ := ht
  have hl := cl_lt hp
  have h8 := h.1
  have hwi := (rg_iff 3 w).mp hw
  have hT := oN_eq h1
  have c1 : ¬ Int32.ofNat t < 0 := by rw [i_lt, oN_t (by omega), Int32.toInt_zero]; omega
  have c2 : ¬ D 31 1 ≤ Int32.ofNat t := by rw [i_le, oN_t (by omega), h31]; omega
  have hB : ∀ k, D (4 + p.toNatClampNeg) k = B (4 + p.toNatClampNeg) k := fun k => hv.1 _ k (Or.inr (by omega))
  have hon : onP D (4 + p.toNatClampNeg) d = onP B (4 + p.toNatClampNeg) d := by unfold onP; rw [hB, hB, hB]
  have hwin : D (4 + p.toNatClampNeg) 0 = p := by
    rw [hB, i_eq, h.2.2.2.2.1 _ (by omega), i_cl]
    rw [rg_iff] at hp
    omega
  -- the end of it, with the names told
  have key : ∀ x : Int32, x = (if rg 32 (onP B (4 + p.toNatClampNeg) d) = true then B 2 (onP B (4 + p.toNatClampNeg) d).toNatClampNeg else 0) → ∃ D1, f_X3_worth_j81 NN S (4 + p.toNatClampNeg) q 32 (wg_up (wg_up (wg_up D 33 0 d) 33 1 (D (4 + p.toNatClampNeg) 3)) 33 2 (D (4 + p.toNatClampNeg) 2)) (Int32.ofNat t) w x 3 = some (saysV val B p d w, D1) ∧ ∀ a k, a ≠ 33 → a ≠ 34 → D1 a k = D a k := by
    intro x hx
    unfold f_X3_worth_j81 f_X3_worth_j111
    have z5 : (5 : Int32).toNatClampNeg = 5 := rfl
    have z4 : (4 : Int32).toNatClampNeg = 4 := rfl
    have z3 : (3 : Int32).toNatClampNeg = 3 := rfl
    have nd : 4 + p.toNatClampNeg ≠ 33 := by omega
    simp only [ck_pos (show inb (3 : Int32) 6 by decide), ck_pos (show inb (4 : Int32) 6 by decide), ck_pos (show inb (5 : Int32) 6 by decide), lt_eq, z3, z4, z5, up_r _ _ _ _ nd, ck_pos (oN_inb (show t < 6 by omega) (by decide)), oN_cl (show t < 2147483648 by omega), q1, bd_eq, hwin]
    have hE : ∃ E, E = wg_up (wg_up (wg_up (wg_up (wg_up (wg_up D 33 0 d) 33 1 (D (4 + p.toNatClampNeg) 3)) 33 2 (D (4 + p.toNatClampNeg) 2)) 33 3 x) 33 4 p) 33 5 (D (4 + p.toNatClampNeg) 4) := ⟨_, rfl⟩
    obtain ⟨E, hE⟩ := hE
    have e0 : ∀ a k, a ≠ 33 → E a k = D a k := fun a k z => by
      rw [hE, up_r _ _ _ _ z, up_r _ _ _ _ z, up_r _ _ _ _ z, up_r _ _ _ _ z, up_r _ _ _ _ z, up_r _ _ _ _ z]
    obtain ⟨D1, r1, r2⟩ := q3 E (fun k => e0 _ _ (by omega)) (fun k => e0 _ _ (by omega)) w hwi.1 hwi.2
    have v0 : E 33 0 = d := by rw [hE, up_k _ _ (by decide), up_k _ _ (by decide), up_k _ _ (by decide), up_k _ _ (by decide), up_k _ _ (by decide), up_s]
    have v1 : E 33 1 = D (4 + p.toNatClampNeg) 3 := by rw [hE, up_k _ _ (by decide), up_k _ _ (by decide), up_k _ _ (by decide), up_k _ _ (by decide), up_s]
    have v2 : E 33 2 = D (4 + p.toNatClampNeg) 2 := by rw [hE, up_k _ _ (by decide), up_k _ _ (by decide), up_k _ _ (by decide), up_s]
    have v3 : E 33 3 = x := by rw [hE, up_k _ _ (by decide), up_k _ _ (by decide), up_s]
    have v4 : E 33 4 = p := by rw [hE, up_k _ _ (by decide), up_s]
    have v5 : E 33 5 = D (4 + p.toNatClampNeg) 4 := by rw [hE, up_s]
    rw [v0, v1, v2, v3, v4, v5, hB, hB, hB, hx] at r1
    rw [← hE, r1]
    refine ⟨D1, ?_, fun a k z1 z2 => (r2 a k z2).trans (e0 a k z1)⟩
    unfold saysV
    by_cases w0 : w = 0
    · rw [if_pos w0, if_pos w0]
      exact clamp8 1 _ (Or.inr rfl) (fun r => some (r, D1))
    · rw [if_neg w0, if_neg w0]
      exact clamp8 0 _ (Or.inl rfl) (fun r => some (r, D1))
  unfold f_X3_worth
  rw [hT]
  have nd : 4 + p.toNatClampNeg ≠ 33 := by omega
  have z2 : (2 : Int32).toNatClampNeg = 2 := rfl
  have z1 : (1 : Int32).toNatClampNeg = 1 := rfl
  have z0 : (0 : Int32).toNatClampNeg = 0 := rfl
  rw [if_neg c1, if_neg c2, ck_pos (oN_inb (show t < 6 by omega) (by decide)), oN_cl (show t < 2147483648 by omega), q1]
  simp only [oq, p8_on, bd_eq, ck_pos (show inb (0 : Int32) 6 by decide), ck_pos (show inb (1 : Int32) 6 by decide), ck_pos (show inb (2 : Int32) 6 by decide), lt_eq, z0, z1, z2, up_r _ _ _ _ nd, s8_isDay, if_bI, hon, up_r _ _ _ _ hq]
  by_cases g : rg 32 (onP B (4 + p.toNatClampNeg) d) = true
  · rw [if_pos g, ck_pos (inb_of g (Nat.le_refl _))]
    exact key _ (by rw [if_pos g]; exact hv.2 _ (cl_lt g))
  · rw [if_neg g]
    exact key _ (by rw [if_neg g])
theorem says9 {np : Nat} {S : wg_Sh} {B D : wg_C} {M : wg_M} {t id : Nat} {val : Int32 → Int32 → Int32 → Int32 → Int32 → Int32 → Int32 → Int32} (h : IHo np B M) (ht : TxI S D M t id val) (h1 : (M.1 55 4).toInt = t) {p : Int32} (hp : rg np p = true) (d : Int32) {w : Int32} (hw : rg 3 w = true) : ∃ M1, f_X9_says NN M w p d = some (saysV val B p d w, M1) ∧ ∀ a k, a ≠ 55 ∨ k ≤ 14 ∨ 30 ≤ k → M1.1 a k = M.1 a k := by
  obtain ⟨q1, q2, q3, q4⟩ := ht
  have hl := cl_lt hp
  have h8 := h.1
  have hi := h.in8 hp
  have hwi := (rg_iff 3 w).mp hw
  obtain ⟨k1, k2, k3, k4, k5, k6⟩ := h.2.2.2.2.2 _ hl
  have hT := oN_eq h1
  have key : ∀ x : Int32, x = (if rg 32 (onP B (4 + p.toNatClampNeg) d) = true then B 2 (onP B (4 + p.toNatClampNeg) d).toNatClampNeg else 0) → ∃ M1, f_X9_says_j53 NN (wg_sM (wg_sM (wg_sM M 55 15 d) 55 16 (B (4 + p.toNatClampNeg) 3)) 55 17 (B (4 + p.toNatClampNeg) 2)) w p x = some (saysV val B p d w, M1) ∧ ∀ a k, a ≠ 55 ∨ k ≤ 14 ∨ 30 ≤ k → M1.1 a k = M.1 a k := by
    intro x hx
    unfold f_X9_says_j53
    simp only [lt_eq, ck_pos hi, sM_r _ _ _ _ (show 63 ≠ 55 by decide), k4]
    have hE : ∃ E, E = wg_sM (wg_sM (wg_sM (wg_sM (wg_sM (wg_sM M 55 15 d) 55 16 (B (4 + p.toNatClampNeg) 3)) 55 17 (B (4 + p.toNatClampNeg) 2)) 55 18 x) 55 19 p) 55 20 (B (4 + p.toNatClampNeg) 4) := ⟨_, rfl⟩
    obtain ⟨E, hE⟩ := hE
    have e0 : ∀ a k, a ≠ 55 ∨ k ≤ 14 ∨ 30 ≤ k → E.1 a k = M.1 a k := fun a k z => by
      by_cases y : a = 55
      · rw [hE, sM_k _ _ (by omega), sM_k _ _ (by omega), sM_k _ _ (by omega), sM_k _ _ (by omega), sM_k _ _ (by omega), sM_k _ _ (by omega)]
      · rw [hE, sM_r _ _ _ _ y, sM_r _ _ _ _ y, sM_r _ _ _ _ y, sM_r _ _ _ _ y, sM_r _ _ _ _ y, sM_r _ _ _ _ y]
    rw [← hE, e0 55 4 (by omega), hT]
    obtain ⟨L1, r1, r2⟩ := q4 E (fun i _ => e0 _ _ (by omega)) (e0 _ _ (by omega)) w hwi.1 hwi.2
    have v0 : E.1 55 15 = d := by rw [hE, sM_k _ _ (by decide), sM_k _ _ (by decide), sM_k _ _ (by decide), sM_k _ _ (by decide), sM_k _ _ (by decide), sM_s]
    have v1 : E.1 55 16 = B (4 + p.toNatClampNeg) 3 := by rw [hE, sM_k _ _ (by decide), sM_k _ _ (by decide), sM_k _ _ (by decide), sM_k _ _ (by decide), sM_s]
    have v2 : E.1 55 17 = B (4 + p.toNatClampNeg) 2 := by rw [hE, sM_k _ _ (by decide), sM_k _ _ (by decide), sM_k _ _ (by decide), sM_s]
    have v3 : E.1 55 18 = x := by rw [hE, sM_k _ _ (by decide), sM_k _ _ (by decide), sM_s]
    have v4 : E.1 55 19 = p := by rw [hE, sM_k _ _ (by decide), sM_s]
    have v5 : E.1 55 20 = B (4 + p.toNatClampNeg) 4 := by rw [hE, sM_s]
    rw [v0, v1, v2, v3, v4, v5, hx] at r1
    rw [r1, bd2_eq, clamp9, clamp9]
    refine ⟨L1, ?_, fun a k z => (r2 a k (by omega)).trans (e0 a k z)⟩
    unfold saysV
    by_cases w0 : w = 0
    · rw [if_pos w0, if_pos w0]; rfl
    · rw [if_neg w0, if_neg w0]; rfl
  unfold f_X9_says
  simp only [p9_on h hp, bd_eq, lt_eq, ck_pos hi, sM_r _ _ _ _ (show 62 ≠ 55 by decide), sM_r _ _ _ _ (show 61 ≠ 55 by decide), sM_r _ _ _ _ (show 59 ≠ 55 by decide), k2, k3, s9_isDay, if_bI]
  by_cases g : rg 32 (onP B (4 + p.toNatClampNeg) d) = true
  · rw [if_pos g, ck_pos (inb_of g (Nat.le_refl _))]
    exact key _ (by rw [if_pos g]; exact (h.2.2.2.1 _ (cl_lt g)).1)
  · rw [if_neg g]
    exact key _ (by rw [if_neg g])
