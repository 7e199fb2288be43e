/-! ===== the start ===== -/
def iX : Option (wg_Sh × wg_C) := f_X8_init NN (wg_nw wg_S0 8 0) (wg_zC wg_C0 0 (fun _ => 0))
theorem get_pair {α β : Type} {x : Option (α × β)} (h : x.isSome = true) : x = some ((x.get h).1, (x.get h).2) := by
  cases x with
  | none => cases h
  | some q => rfl
set_option maxRecDepth 100000 in
theorem iX_some : iX.isSome = true := by decide +kernel
def iS : wg_Sh := (iX.get iX_some).1
def iC : wg_C := (iX.get iX_some).2
theorem iX_eq : iX = some (iS, iC) := by
  unfold iS iC
  exact get_pair iX_some
set_option maxRecDepth 100000 in
theorem iS_n : iS.2.2.2 = 55 := by decide +kernel
def jX : Option (wg_Sh × wg_M) := f_X9_init (wg_nw iS 9 0) (wg_zM wg_M0 55)
set_option maxRecDepth 100000 in
theorem jX_some : jX.isSome = true := by decide +kernel
def jS : wg_Sh := (jX.get jX_some).1
def jM : wg_M := (jX.get jX_some).2
theorem jX_eq : jX = some (jS, jM) := by
  unfold jS jM
  exact get_pair jX_some
set_option maxRecDepth 100000 in
theorem j_SC : wg_SCb jS = true := by decide +kernel
set_option maxRecDepth 100000 in
theorem j_SM : wg_SMb jS = true := by decide +kernel
set_option maxRecDepth 100000 in
theorem j_S : jS.1 32 0 = some 52 ∧ jS.2.1 (52 + 1) = 7 := by decide +kernel
set_option maxRecDepth 100000 in
theorem j_sky : ∀ d : Nat, d < 32 → jM.1 59 d = iC 2 d ∧ 0 ≤ (iC 2 d).toInt ∧ (iC 2 d).toInt ≤ 9 := by decide +kernel
set_option maxRecDepth 100000 in
theorem j_win : ∀ p : Nat, p < 8 → (iC (4 + p) 0).toInt = p := by decide +kernel
set_option maxRecDepth 100000 in
theorem j_sh : ∀ s : Nat, s < 4 → iC (44 + 2 * s) 1 = -1 ∧ jM.1 71 s = 0 := by decide +kernel
set_option maxRecDepth 100000 in
theorem j_one : (iC 1 2).toInt = 0 ∧ jM.1 55 13 = iC 1 2 ∧ iC 0 2 = 0 ∧ jM.1 55 38 = -1 ∧ jM.1 55 4 = iC 1 3 ∧ (iC 1 3).toInt = 0 ∧ (iC 23 1).toInt = 0 ∧ jM.1 55 6 = iC 23 1 ∧ jM.1 55 14 = 0 ∧ (iC 31 1).toInt = 1 ∧ jM.1 55 3 = iC 31 1 := by decide +kernel
set_option maxRecDepth 100000 in
theorem j_txt : jM.1 57 0 = Int32.ofNat 56 ∧ ∀ i : Nat, i < 56 → 0 ≤ (jM.1 56 i).toInt ∧ (jM.1 56 i).toInt ≤ 255 := by decide +kernel
/-- the class would read the reference's first text so -/
def hC : wg_C := fun a k => if a = 23 then (if k = 1 then Int32.ofNat 56 else 0) else if a = 24 then jM.1 56 k else 0
def rdSt (A : wg_C) : wg_C := wg_up (wg_up (wg_up (wg_up A 28 1 0) 28 3 0) 28 0 (-1)) 28 2 (A 25 0)
theorem rdSt_ok {A : wg_C} {m : Nat} (hm : 1 ≤ m) (c3 : A 23 6 = Int32.ofNat m) : BsC (A 25) (A 26) (A 27) m (rdSt A) ∧ CK (A 25) m (rdSt A) 0 0 := by
  have fr : ∀ a k, a ≠ 28 → rdSt A a k = A a k := fun a k z => by
    unfold rdSt
    rw [up_r _ _ _ _ z, up_r _ _ _ _ z, up_r _ _ _ _ z, up_r _ _ _ _ z]
  refine ⟨⟨?_, ?_, ?_, by rw [fr _ _ (by decide)]; exact c3⟩, ?_, ?_, ?_, ?_, by omega, Nat.le_refl _⟩
  · funext i; exact fr _ _ (by decide)
  · funext i; exact fr _ _ (by decide)
  · funext i; exact fr _ _ (by decide)
  · unfold rdSt; rw [up_k _ _ (by decide), up_s]
  · unfold rdSt; rw [up_k _ _ (by decide), up_k _ _ (by decide), up_k _ _ (by decide), up_s]; rfl
  · unfold rdSt; rw [up_s]
  · unfold rdSt; rw [up_k _ _ (by decide), up_k _ _ (by decide), up_s]; rfl
def aX : Option wg_C := f_X5_cut NN hC
set_option maxRecDepth 100000 in
theorem aX_some : aX.isSome = true := by decide +kernel
def aC : wg_C := aX.get aX_some
theorem aX_eq : aX = some aC := (Option.some_get aX_some).symm
def eX : Option wg_C := chain8 (rdSt aC)
set_option maxRecDepth 100000 in
theorem eX_some : eX.isSome = true := by decide +kernel
def eC : wg_C := eX.get eX_some
theorem eX_eq : eX = some eC := (Option.some_get eX_some).symm
set_option maxRecDepth 100000 in
theorem e_one : eC 28 0 = -1 ∧ eC 28 3 = Int32.ofNat 7 ∧ eC 30 0 = iC (52 + 2) 0 ∧ eC 30 1 = iC (52 + 2) 1 ∧ eC 30 2 = iC (52 + 2) 2 := by decide +kernel
set_option maxRecDepth 100000 in
theorem e_code : ∀ i : Nat, i < 7 → iC (52 + 1) i = eC 29 i := by decide +kernel
theorem j_A : TxA (jM.1 56) 56 0 jM := ⟨by decide, by decide, j_txt.1, fun i hi => ⟨by rw [show 160 * 0 + i = i by omega], j_txt.2 i hi⟩⟩
theorem ITx_by {S : wg_Sh} {C : wg_C} {M : wg_M} {H A E : wg_C} {t id n len : Nat} {f : Nat → Int32} (hn : n ≤ 160) (H1 : H 23 1 = Int32.ofNat n) (H2 : H 24 = f) (h1 : f_X5_cut NN H = some A) (h2 : chain8 (rdSt A) = some E) (e0 : E 28 0 = -1) (hl : len ≤ 160) (e3 : E 28 3 = Int32.ofNat len) (c0 : E 30 0 = C (id + 2) 0) (c1 : E 30 1 = C (id + 2) 1) (c2 : E 30 2 = C (id + 2) 2) (cc : ∀ i, i < len → C (id + 1) i = E 29 i) (hA : TxA f n t M) (h32 : S.1 32 t = some id) (hid : 52 ≤ id) (hlen : S.2.1 (id + 1) = len) : ITx S C M t := by
  obtain ⟨A', m, hs, d1, d2, d3, d4⟩ := s8_cut hn H1
  rw [h1] at d1
  cases d1
  rw [H2] at d4
  obtain ⟨hb, hc⟩ := rdSt_ok (A := A) d4.1.1 d3
  obtain ⟨e0', e1', e2', ok, z1, z2, z3, z4⟩ := simOK d4 hb hc h2 e0 hA
  have e7 : e2' = len := by
    have := ok.1.2.2
    have q := z1.symm.trans e3
    rw [i_eq, oN_t (by omega), oN_t (by omega)] at q
    omega
  subst e7
  exact ITx_new ok (id := id) h32 hid hlen cc (c0.symm.trans z2) (c1.symm.trans z3) (c2.symm.trans z4) hA
theorem a_cut : f_X5_cut NN hC = some aC := by
  have h := aX_eq
  unfold aX at h
  exact h
theorem e_chain : chain8 (rdSt aC) = some eC := by
  have h := eX_eq
  unfold eX at h
  exact h
theorem h_1 : hC 23 1 = Int32.ofNat 56 := rfl
theorem h_2 : hC 24 = jM.1 56 := rfl
theorem j_ITx : ITx jS iC jM 0 := ITx_by (id := 52) (show 56 ≤ 160 by decide) h_1 h_2 a_cut e_chain e_one.1 (show 7 ≤ 160 by decide) e_one.2.1 e_one.2.2.1 e_one.2.2.2.1 e_one.2.2.2.2 e_code j_A j_S.1 (by decide) j_S.2
theorem h_init : H_init wInv := by
  obtain ⟨o1, o2, o3, o4, o5, o6, o7, o8, o9, o10, o11⟩ := j_one
  refine ⟨iS, iC, jS, jM, iX_eq, iS_n, jX_eq, ⟨wg_SCb_iff.mp j_SC, wg_SMb_iff.mp j_SM⟩, 0, 1, ⟨by decide, o1, o2, j_sky, j_win, fun p hp => absurd hp (Nat.not_lt_zero _)⟩, Or.inl ⟨o3, o4⟩, ⟨o5, by omega, by omega⟩, ⟨0, by decide, o7, o8, fun i hi => absurd hi (Nat.not_lt_zero _)⟩, fun s hs => Or.inl (j_sh s hs), o9, ⟨⟨by decide, by decide⟩, o10, o11, fun t ht => ?_⟩⟩
  have : t = 0 := by omega
  subst this
  exact j_ITx
