/-- both sides come to the same spots -/
theorem rch_both {np : Nat} {C D : wg_C} {L : wg_M} {M : wg_M} {o s : Int32} {s0 : Nat} (h : IHo np C M) (hd : ∀ r d, r < 6 → d < 32 → (FoR (D 36) r ≤ d ↔ Rch (GP C np o (bkV s)) (fun _ _ => 1) s0 (32 * r + d))) (hl : FinS (GP C np o (bkV s)) (fun _ _ => 1) s0 10000 99999999 (FoR (L.1 65))) {r d : Nat} (hr : r < 6) (hd2 : d < 32) : FoR (D 36) r ≤ d ↔ FoR (L.1 65) (32 * r + d) < 99999999 := by
  rw [hd r d hr hd2, hl.rch (GP.wgt h (w := fun _ _ => 1) (m := 1) (fun p x _ => ⟨Nat.le_refl _, Nat.le_refl _⟩)) (by decide) (by decide) (show 32 * r + d < 192 by omega)]
theorem far_c {L : wg_M} (hB : Bd (L.1 65) 99999999) {x : Nat} (hx : x < 192) : (99999999 : Int32) ≤ L.1 65 x ↔ ¬ FoR (L.1 65) x < 99999999 := by
  obtain ⟨t1, t2⟩ := FoR_t hB hx
  rw [i_le, t1, show (99999999 : Int32).toInt = 99999999 from rfl]
  omega
theorem h_earliest : H_earliest wInv := by
  intro S C M h hw p q o
  obtain ⟨hs, np, nt, h1, h2, h3, h4, h5, h6, h7⟩ := id h
  have hno : ∃ (r : Int32) (C1 : wg_C) (M1 : wg_M), (some (-2, C) : Option (Int32 × wg_C)) = some (r, C1) ∧ (some (-2, M) : Option (Int32 × wg_M)) = some (r, M1) ∧ wInv S C1 M1 := ⟨_, _, _, rfl, rfl, h⟩
  unfold f_X8_earliest f_X9_earliest
  simp only [s8_isSpot, s9_isSpot, s8_isRoom, s9_isRoom, s8_isSort, s9_isSort, bd_eq, if_bI]
  by_cases g1 : rg 192 p = true
  case neg => rw [if_neg g1, if_neg g1]; exact hno
  by_cases g2 : rg 6 q = true
  case neg => rw [if_pos g1, if_pos g1, if_neg g2, if_neg g2]; exact hno
  by_cases g3 : rg 3 o = true
  case neg => rw [if_pos g1, if_pos g1, if_pos g2, if_pos g2, if_neg g3, if_neg g3]; exact hno
  rw [if_pos g1, if_pos g1, if_pos g2, if_pos g2, if_pos g3, if_pos g3]
  obtain ⟨s0, hs0, rfl⟩ := rg_oN g1
  obtain ⟨r, hr, rfl⟩ := rg_oN g2
  obtain ⟨D, d1, d2, d3, d4⟩ := s8_reach (o := o) (s := 0) h1 hs0
  obtain ⟨L, l1, l2, l3, l4⟩ := s9_spreads0 h1 g3 hs0
  rw [h6] at l4
  have both := fun d (hd : d < 32) => rch_both h1 d4 l4 hr hd
  have hI : wInv S D L := h.keep (fun a k z => d2 a k (by unfold pC at z; omega)) (fun a k z => l2 a k (by unfold pM at z; omega))
  rw [d1, l1, bd_eq, bd_eq, ck_pos (oN_inb hr (by decide)), ck_pos (oN_inb hr (by decide)), oN_cl (show r < 2147483648 by omega)]
  have br := d3 r hr
  have er : D 36 r = Int32.ofNat (FoR (D 36) r) := by
    rw [i_eq, oN_t (by unfold FoR; omega)]
    unfold FoR
    omega
  have hf : FoR (D 36) r ≤ 32 := by unfold FoR; omega
  generalize FoR (D 36) r = f at *
  rw [er]
  obtain ⟨v, u1, u2⟩ := lp_ok (b := fun q => f_X9_earliest_l34 NN L (Int32.ofNat r) q) (fun q => ∃ d, d ≤ 32 ∧ d ≤ f ∧ q = Int32.ofNat d) (fun q => 32 - q.toInt.toNat) (fun v => (f = 32 ∧ ∃ z, v = .inl z) ∨ (f < 32 ∧ v = .inr (Int32.ofNat f, L))) (by
    rintro q ⟨d, hd, hdf, rfl⟩
    have g0 : (32 : Int32) ≤ Int32.ofNat d ↔ 32 ≤ d := oN_le (show d < 2147483648 by omega) (show 32 < 2147483648 by omega)
    simp only [f_X9_earliest_l34, g0, lt_eq]
    by_cases g : 32 ≤ d
    · right
      rw [if_pos g]
      exact ⟨_, rfl, Or.inl ⟨by omega, _, rfl⟩⟩
    · rw [if_neg g, (oN_r32 (oN_t (show r < 2147483648 by omega)) hr (by omega)).2, ck_pos (oN_inb (show 32 * r + d < 192 by omega) (by decide)), oN_cl (show 32 * r + d < 2147483648 by omega)]
      have c1 := far_c l3 (show 32 * r + d < 192 by omega)
      by_cases g4 : f ≤ d
      · right
        rw [if_neg (fun z => c1.mp z ((both d (by omega)).mp g4))]
        have : d = f := by omega
        subst this
        exact ⟨_, rfl, Or.inr ⟨by omega, rfl⟩⟩
      · left
        rw [if_pos (c1.mpr (fun z => g4 ((both d (by omega)).mpr z)))]
        refine ⟨_, rfl, ⟨d + 1, by omega, by omega, oN_s d⟩, ?_⟩
        rw [oN_s, oN_t (by omega), oN_t (by omega)]
        omega) NN 0 ⟨0, by omega, by omega, rfl⟩ (by have := NN_big; show 32 - _ < NN; omega)
  rw [u1]
  have g0 : (32 : Int32) ≤ Int32.ofNat f ↔ 32 ≤ f := oN_le (show f < 2147483648 by omega) (show 32 < 2147483648 by omega)
  rcases u2 with ⟨a1, z, rfl⟩ | ⟨a1, rfl⟩
  · rw [if_pos (g0.mpr (by omega))]
    exact ⟨_, _, _, rfl, rfl, hI⟩
  · rw [if_neg (fun z => by have := g0.mp z; omega)]
    exact ⟨_, _, _, rfl, rfl, hI⟩
def sumS (F : Nat → Nat) : Nat → Nat
  | 0 => 0
  | n + 1 => sumS F n + (32 - F n)
theorem sumS_le (F : Nat → Nat) : ∀ n, sumS F n ≤ 32 * n
  | 0 => Nat.le_refl _
  | n + 1 => by
    unfold sumS
    have := sumS_le F n
    omega
theorem h_spots : H_spots wInv := by
  intro S C M h hw p o
  obtain ⟨hs, np, nt, h1, h2, h3, h4, h5, h6, h7⟩ := id h
  have hno : ∃ (r : Int32) (C1 : wg_C) (M1 : wg_M), (some (-2, C) : Option (Int32 × wg_C)) = some (r, C1) ∧ (some (-2, M) : Option (Int32 × wg_M)) = some (r, M1) ∧ wInv S C1 M1 := ⟨_, _, _, rfl, rfl, h⟩
  unfold f_X8_spots f_X9_spots
  simp only [s8_isSpot, s9_isSpot, s8_isSort, s9_isSort, bd_eq, if_bI]
  by_cases g1 : rg 192 p = true
  case neg => rw [if_neg g1, if_neg g1]; exact hno
  by_cases g3 : rg 3 o = true
  case neg => rw [if_pos g1, if_pos g1, if_neg g3, if_neg g3]; exact hno
  rw [if_pos g1, if_pos g1, if_pos g3, if_pos g3]
  obtain ⟨s0, hs0, rfl⟩ := rg_oN g1
  obtain ⟨D, d1, d2, d3, d4⟩ := s8_reach (o := o) (s := 0) h1 hs0
  obtain ⟨L, l1, l2, l3, l4⟩ := s9_spreads0 h1 g3 hs0
  rw [h6] at l4
  have hI : wInv S D L := h.keep (fun a k z => d2 a k (by unfold pC at z; omega)) (fun a k z => l2 a k (by unfold pM at z; omega))
  rw [d1, l1, bd_eq, bd_eq]
  have fr : ∀ r, r < 6 → (D 36 r).toInt = (FoR (D 36) r : Nat) ∧ FoR (D 36) r ≤ 32 := fun r hr => by
    have := d3 r hr
    unfold FoR
    omega
  have e8 := lp_to (b := fun (q : Int32 × Int32) => f_X8_spots_l36 NN D q.1 q.2) (fun k => (Int32.ofNat (sumS (FoR (D 36)) k), Int32.ofNat k)) 6 (Int32.ofNat (sumS (FoR (D 36)) 6), 6) (fun k hk => by
    obtain ⟨t1, t2⟩ := fr k hk
    have b := sumS_le (FoR (D 36)) k
    have g0 : (6 : Int32) ≤ Int32.ofNat k ↔ 6 ≤ k := oN_le (show k < 2147483648 by omega) (show 6 < 2147483648 by omega)
    simp only [f_X8_spots_l36, g0, Nat.not_le.mpr hk, if_false, ck_pos (oN_inb hk (by decide)), oN_cl (show k < 2147483648 by omega), lt_eq, oN_s]
    have e : Int32.ofNat (sumS (FoR (D 36)) k) + (32 - D 36 k) = Int32.ofNat (sumS (FoR (D 36)) (k + 1)) := by
      have e1 : (32 - D 36 k).toInt = (32 - FoR (D 36) k : Nat) := by
        rw [i_sub, t1, show (32 : Int32).toInt = 32 from rfl]
        omega
      have b2 := sumS_le (FoR (D 36)) (k + 1)
      rw [i_eq, i_addN (oN_t (by omega)) e1 (by omega), oN_t (by omega)]
      rfl
    rw [e]) (by rfl) NN (by have := NN_big; omega)
  have e9 := lp_to (b := fun (q : Int32 × Int32) => f_X9_spots_l29 NN L q.1 q.2) (fun k => (Int32.ofNat (sumS (FoR (D 36)) (k / 32) + (k % 32 - FoR (D 36) (k / 32))), Int32.ofNat k)) 192 (Int32.ofNat (sumS (FoR (D 36)) 6), 192) (fun k hk => by
    obtain ⟨t1, t2⟩ := fr (k / 32) (by omega)
    have b := sumS_le (FoR (D 36)) (k / 32)
    have g0 : (192 : Int32) ≤ Int32.ofNat k ↔ 192 ≤ k := oN_le (show k < 2147483648 by omega) (show 192 < 2147483648 by omega)
    simp only [f_X9_spots_l29, g0, Nat.not_le.mpr hk, if_false, ck_pos (oN_inb hk (by decide)), oN_cl (show k < 2147483648 by omega), lt_eq, oN_s, Int32.add_zero]
    have both := rch_both h1 d4 l4 (r := k / 32) (d := k % 32) (by omega) (by omega)
    rw [show 32 * (k / 32) + k % 32 = k by omega] at both
    have c1 := far_c l3 hk
    have key : sumS (FoR (D 36)) ((k + 1) / 32) + ((k + 1) % 32 - FoR (D 36) ((k + 1) / 32)) = sumS (FoR (D 36)) (k / 32) + (k % 32 - FoR (D 36) (k / 32)) + (if FoR (D 36) (k / 32) ≤ k % 32 then 1 else 0) := by
      by_cases e : k % 32 = 31
      · have e1 : (k + 1) / 32 = k / 32 + 1 := by omega
        have e2 : (k + 1) % 32 = 0 := by omega
        rw [e1, e2, e]
        show sumS (FoR (D 36)) (k / 32) + (32 - FoR (D 36) (k / 32)) + _ = _
        split <;> omega
      · have e1 : (k + 1) / 32 = k / 32 := by omega
        have e2 : (k + 1) % 32 = k % 32 + 1 := by omega
        rw [e1, e2]
        split <;> omega
    by_cases g4 : FoR (D 36) (k / 32) ≤ k % 32
    · rw [if_neg (fun z => c1.mp z (both.mp g4)), key, if_pos g4]
    · rw [if_pos (c1.mpr (fun z => g4 (both.mpr z))), key, if_neg g4]
      rfl) (by
    have e6 : 192 / 32 = 6 := rfl
    show f_X9_spots_l29 NN L (Int32.ofNat (sumS (FoR (D 36)) (192 / 32) + (192 % 32 - FoR (D 36) (192 / 32)))) (Int32.ofNat 192) = _
    simp only [f_X9_spots_l29, show (192 : Int32) ≤ Int32.ofNat 192 by decide, if_true, show 192 % 32 = 0 from rfl, Nat.zero_sub, Nat.add_zero, e6]
    rfl) NN (by have := NN_big; omega)
  rw [show lp (fun (q : Int32 × Int32) => f_X8_spots_l36 NN D q.1 q.2) NN ((0 : Int32), (0 : Int32)) = some (Int32.ofNat (sumS (FoR (D 36)) 6), 6) from e8, bd2_eq]
  have z0 : (Int32.ofNat (sumS (FoR (D 36)) (0 / 32) + (0 % 32 - FoR (D 36) (0 / 32))), Int32.ofNat 0) = ((0 : Int32), (0 : Int32)) := by
    show (Int32.ofNat (0 + (0 - FoR (D 36) 0)), Int32.ofNat 0) = _
    rw [Nat.zero_sub]
    rfl
  rw [z0] at e9
  rw [e9, bd2_eq]
  exact ⟨_, _, _, rfl, rfl, hI⟩
/-- whether it comes there, as if a set of panes were not there -/
def comV (C : wg_C) (np : Nat) (o s : Int32) (s0 x : Nat) : Prop := Rch (GP C np o (bkV s)) (fun _ _ => 1) s0 x
theorem com_both {np : Nat} {C C' : wg_C} {M M' : wg_M} {o s : Int32} {s0 x : Nat} (h : IHo np C M) (ho : rg 3 o = true) (hs0 : s0 < 192) (hx : x < 192) (hC : ∀ a k, a ≠ 36 → C' a k = C a k) (hM : ∀ a k, a ≠ 65 → M'.1 a k = M.1 a k) (h14 : M.1 55 14 = 0) : ∃ v D L, f_X7_comes NN C' (Int32.ofNat s0) (Int32.ofNat x) o s = some (v, D) ∧ f_X9_comesBut NN M' (Int32.ofNat s0) (Int32.ofNat x) o s = some (v, L) ∧ ((v = 0 ∧ ¬ comV C np o s s0 x) ∨ (v = 1 ∧ comV C np o s s0 x)) ∧ (∀ a k, a ≠ 36 → D a k = C a k) ∧ ∀ a k, a ≠ 65 → L.1 a k = M.1 a k := by
  have hI : IHo np C' M' := h.keep (fun a k _ => hC a k (by omega)) (fun a k q q' => hM a k (by omega)) (hM _ _ (by decide))
  have hGP : GP C' np o (bkV s) = GP C np o (bkV s) := by
    funext p y z
    unfold GP passP leadP onP
    apply propext
    constructor
    · rintro ⟨a1, a2⟩
      have := h.1
      simp only [hC (4 + p) _ (show 4 + p ≠ 36 by omega)] at a2
      exact ⟨a1, a2⟩
    · rintro ⟨a1, a2⟩
      have := h.1
      refine ⟨a1, ?_⟩
      simp only [hC (4 + p) _ (show 4 + p ≠ 36 by omega)]
      exact a2
  obtain ⟨D, d1, d2, d3, d4⟩ := s8_reach (o := o) (s := s) hI hs0
  have hIs : IHo np C' (wg_sM M' 55 14 s) := hI.keep (fun _ _ _ => rfl) (fun a k q q' => sM_r _ _ _ _ (by omega)) (sM_k _ _ (by decide))
  obtain ⟨L, l1, l2, l3, l4⟩ := s9_spreads0 hIs ho hs0
  rw [sM_s] at l4
  have both := rch_both hI d4 l4 (r := x / 32) (d := x % 32) (by omega) (by omega)
  rw [show 32 * (x / 32) + x % 32 = x by omega] at both
  have d4' := d4 (x / 32) (x % 32) (by omega) (by omega)
  rw [show 32 * (x / 32) + x % 32 = x by omega, hGP] at d4'
  obtain ⟨e1, e2⟩ := oN_32 hx
  have hL5 : ∀ a k, a ≠ 65 → (wg_sM L 55 14 0).1 a k = M.1 a k := fun a k q => by
    by_cases e : a = 55 ∧ k = 14
    · obtain ⟨rfl, rfl⟩ := e
      rw [sM_s, h14]
    · have z : L.1 a k = (wg_sM M' 55 14 s).1 a k := l2 a k q
      by_cases y : a = 55
      · subst y
        rw [sM_k _ _ (by omega), z, sM_k _ _ (by omega)]
        exact hM _ _ q
      · rw [sM_r _ _ _ _ y, z, sM_r _ _ _ _ y]
        exact hM _ _ q
  unfold f_X7_comes f_X9_comesBut
  rw [d1, bd_eq, lt_eq, l1, bd_eq, lt_eq, e2, e1, ck_pos (oN_inb (show x / 32 < 6 by omega) (by decide)), ck_pos (oN_inb hx (by decide)), oN_cl (show x / 32 < 2147483648 by omega), oN_cl (show x < 2147483648 by omega), sM_r _ _ _ _ (show 65 ≠ 55 by decide)]
  have b6 := d3 (x / 32) (by omega)
  have c1 : Int32.ofNat (x % 32) < D 36 (x / 32) ↔ ¬ FoR (D 36) (x / 32) ≤ x % 32 := by
    rw [i_lt, oN_t (by omega)]
    unfold FoR
    omega
  have c2 := far_c l3 hx
  by_cases g : FoR (D 36) (x / 32) ≤ x % 32
  · rw [if_neg (fun z => c1.mp z g), if_neg (fun z => c2.mp z (both.mp g))]
    exact ⟨_, _, _, rfl, rfl, Or.inr ⟨rfl, d4'.mp g⟩, fun a k q => (d2 a k q).trans (hC a k q), hL5⟩
  · rw [if_pos (c1.mpr g), if_pos (c2.mpr (fun z => g (both.mpr z)))]
    exact ⟨_, _, _, rfl, rfl, Or.inl ⟨rfl, fun z => g (d4'.mpr z)⟩, fun a k q => (d2 a k q).trans (hC a k q), hL5⟩
