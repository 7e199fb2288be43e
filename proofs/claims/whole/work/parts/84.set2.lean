theorem setOk_iff {np : Nat} {w p v : Int32} : setOk np w p v = true ↔ (rg 5 w = true ∧ okP np w p = true) ∧ fitV w v = true := by simp [setOk]
theorem setC_hi {C : wg_C} {w : Int32} {p : Nat} {v : Int32} {a : Nat} (k : Nat) (hp : p < 8 ∨ w = 0) (h : 12 ≤ a ∨ a = 0 ∨ a = 1) : setC C w p v a k = C a k := by
  unfold setC
  by_cases w0 : w = 0
  · rw [if_pos w0]
    exact up_r _ _ _ _ (by omega)
  · have hp : p < 8 := hp.resolve_right w0
    rw [if_neg w0]
    repeat' split
    all_goals exact up_r _ _ _ _ (by omega)
theorem setM_hi {M : wg_M} {w : Int32} {p : Nat} {v : Int32} {a : Nat} (k : Nat) (h : a ≤ 58 ∨ a = 60 ∨ 65 ≤ a) : (setM M w p v).1 a k = M.1 a k := by
  unfold setM
  repeat' split
  all_goals exact sM_r _ _ _ _ (by omega)
theorem IHo.pane1 {np : Nat} {C D : wg_C} {M L : wg_M} (h : IHo np C M) {q : Nat} (hq : q < np) (hC : ∀ a k, a ≤ 11 → a ≠ 4 + q → D a k = C a k) (h0 : D (4 + q) 0 = C (4 + q) 0) (hM : ∀ a k, 59 ≤ a → a ≤ 64 → a = 59 ∨ k ≠ q → L.1 a k = M.1 a k) (hn : L.1 55 13 = M.1 55 13) (hp : IP D L q) : IHo np D L := by
  obtain ⟨h1, h2, h3, h4, h5, h6⟩ := h
  refine ⟨h1, by rw [hC 1 2 (by omega) (by omega)]; exact h2, by rw [hn, hC 1 2 (by omega) (by omega)]; exact h3, ?_, ?_, ?_⟩
  · intro d hd
    have := h4 d hd
    unfold IS at *
    rw [hC 2 d (by omega) (by omega), hM 59 d (by omega) (by omega) (Or.inl rfl)]
    exact this
  · intro p hp8
    by_cases e : p = q
    · subst e; rw [h0]; exact h5 p hp8
    · rw [hC (4 + p) 0 (by omega) (by omega)]
      exact h5 p hp8
  · intro p hp'
    by_cases e : p = q
    · subst e; exact hp
    · have := h6 p hp'
      unfold IP at *
      simp only [hC (4 + p) _ (show 4 + p ≤ 11 by omega) (by omega), hM 60 p (by omega) (by omega) (Or.inr e), hM 61 p (by omega) (by omega) (Or.inr e), hM 62 p (by omega) (by omega) (Or.inr e), hM 63 p (by omega) (by omega) (Or.inr e), hM 64 p (by omega) (by omega) (Or.inr e)]
      exact this
theorem IHo.set {np : Nat} {C : wg_C} {M : wg_M} (h : IHo np C M) {w p v : Int32} (hs : setOk np w p v = true) : IHo np (setC C w p.toNatClampNeg v) (setM M w p.toNatClampNeg v) := by
  obtain ⟨⟨s1, s2⟩, s3⟩ := setOk_iff.mp hs
  unfold setC setM
  unfold fitV at s3
  rcases (w04 w).mp s1 with e | e | e | e | e
  · subst e
    rw [okP0] at s2
    replace s3 : rg 10 v = true := s3
    rw [rg_iff] at s3
    have hp := cl_lt s2
    obtain ⟨h1, h2, h3, h4, h5, h6⟩ := h
    refine ⟨h1, by rw [if_pos rfl, up_r _ _ _ _ (by omega)]; exact h2, by rw [if_pos rfl, if_pos rfl, up_r _ _ _ _ (by omega), sM_r _ _ _ _ (by omega)]; exact h3, ?_, ?_, ?_⟩
    · intro d hd
      have := h4 d hd
      unfold IS at *
      rw [if_pos rfl, if_pos rfl]
      by_cases e : d = p.toNatClampNeg
      · subst e
        rw [up_s, sM_s]
        exact ⟨rfl, by omega⟩
      · rw [up_k _ _ e, sM_k _ _ e]
        exact this
    · intro q hq
      rw [if_pos rfl, up_r _ _ _ _ (by omega)]
      exact h5 q hq
    · intro q hq
      have := h6 q hq
      unfold IP at *
      simp only [if_true, up_r _ _ _ _ (show 4 + q ≠ 2 by omega), sM_r _ _ _ _ (show 60 ≠ 59 by decide), sM_r _ _ _ _ (show 61 ≠ 59 by decide), sM_r _ _ _ _ (show 62 ≠ 59 by decide), sM_r _ _ _ _ (show 63 ≠ 59 by decide), sM_r _ _ _ _ (show 64 ≠ 59 by decide)]
      exact this
  · subst e
    replace s2 : rg np p = true := s2
    have hp := cl_lt s2
    have h8 := h.1
    refine h.pane1 hp ?_ ?_ ?_ ?_ ?_
    · intro a k q q'
      exact up_r _ _ _ _ q'
    · exact up_k _ _ (by decide)
    · intro a k q q' q''
      by_cases e : k = p.toNatClampNeg
      · exact sM_r _ _ _ _ (by omega)
      · exact sM_k _ _ e
    · exact sM_r _ _ _ _ (by decide)
    · have k := h.2.2.2.2.2 _ hp
      show IP (wg_up C (4 + p.toNatClampNeg) 2 v) (wg_sM M 61 p.toNatClampNeg v) p.toNatClampNeg
      unfold IP PRg at *
      obtain ⟨k1, k2, k3, k4, k5, k6⟩ := k
      simp only [k1, k2, k3, k4, k5, true_and, up_s, sM_s, up_k _ _ (show 1 ≠ 2 by decide), up_k _ _ (show 3 ≠ 2 by decide), up_k _ _ (show 4 ≠ 2 by decide), up_k _ _ (show 5 ≠ 2 by decide), sM_r _ _ _ _ (show 60 ≠ 61 by decide), sM_r _ _ _ _ (show 62 ≠ 61 by decide), sM_r _ _ _ _ (show 63 ≠ 61 by decide), sM_r _ _ _ _ (show 64 ≠ 61 by decide)]
      replace s3 : rg 10 v = true := s3
      rw [rg_iff] at s3
      omega
  · subst e
    replace s2 : rg np p = true := s2
    have hp := cl_lt s2
    have h8 := h.1
    refine h.pane1 hp ?_ ?_ ?_ ?_ ?_
    · intro a k q q'
      exact up_r _ _ _ _ q'
    · exact up_k _ _ (by decide)
    · intro a k q q' q''
      by_cases e : k = p.toNatClampNeg
      · exact sM_r _ _ _ _ (by omega)
      · exact sM_k _ _ e
    · exact sM_r _ _ _ _ (by decide)
    · have k := h.2.2.2.2.2 _ hp
      show IP (wg_up C (4 + p.toNatClampNeg) 3 v) (wg_sM M 62 p.toNatClampNeg v) p.toNatClampNeg
      unfold IP PRg at *
      obtain ⟨k1, k2, k3, k4, k5, k6⟩ := k
      simp only [k1, k2, k3, k4, k5, true_and, up_s, sM_s, up_k _ _ (show 1 ≠ 3 by decide), up_k _ _ (show 2 ≠ 3 by decide), up_k _ _ (show 4 ≠ 3 by decide), up_k _ _ (show 5 ≠ 3 by decide), sM_r _ _ _ _ (show 60 ≠ 62 by decide), sM_r _ _ _ _ (show 61 ≠ 62 by decide), sM_r _ _ _ _ (show 63 ≠ 62 by decide), sM_r _ _ _ _ (show 64 ≠ 62 by decide)]
      replace s3 : decide (-9 ≤ v.toInt ∧ v.toInt ≤ 9) = true := s3
      rw [decide_eq_true_eq] at s3
      omega
  · subst e
    replace s2 : rg np p = true := s2
    have hp := cl_lt s2
    have h8 := h.1
    refine h.pane1 hp ?_ ?_ ?_ ?_ ?_
    · intro a k q q'
      exact up_r _ _ _ _ q'
    · exact up_k _ _ (by decide)
    · intro a k q q' q''
      by_cases e : k = p.toNatClampNeg
      · exact sM_r _ _ _ _ (by omega)
      · exact sM_k _ _ e
    · exact sM_r _ _ _ _ (by decide)
    · have k := h.2.2.2.2.2 _ hp
      show IP (wg_up C (4 + p.toNatClampNeg) 4 v) (wg_sM M 63 p.toNatClampNeg v) p.toNatClampNeg
      unfold IP PRg at *
      obtain ⟨k1, k2, k3, k4, k5, k6⟩ := k
      simp only [k1, k2, k3, k4, k5, true_and, up_s, sM_s, up_k _ _ (show 1 ≠ 4 by decide), up_k _ _ (show 2 ≠ 4 by decide), up_k _ _ (show 3 ≠ 4 by decide), up_k _ _ (show 5 ≠ 4 by decide), sM_r _ _ _ _ (show 60 ≠ 63 by decide), sM_r _ _ _ _ (show 61 ≠ 63 by decide), sM_r _ _ _ _ (show 62 ≠ 63 by decide), sM_r _ _ _ _ (show 64 ≠ 63 by decide)]
      replace s3 : rg 6 v = true := s3
      rw [rg_iff] at s3
      omega
  · subst e
    replace s2 : rg np p = true := s2
    have hp := cl_lt s2
    have h8 := h.1
    refine h.pane1 hp ?_ ?_ ?_ ?_ ?_
    · intro a k q q'
      exact up_r _ _ _ _ q'
    · exact up_k _ _ (by decide)
    · intro a k q q' q''
      by_cases e : k = p.toNatClampNeg
      · exact sM_r _ _ _ _ (by omega)
      · exact sM_k _ _ e
    · exact sM_r _ _ _ _ (by decide)
    · have k := h.2.2.2.2.2 _ hp
      show IP (wg_up C (4 + p.toNatClampNeg) 5 v) (wg_sM M 64 p.toNatClampNeg v) p.toNatClampNeg
      unfold IP PRg at *
      obtain ⟨k1, k2, k3, k4, k5, k6⟩ := k
      simp only [k1, k2, k3, k4, k5, true_and, up_s, sM_s, up_k _ _ (show 1 ≠ 5 by decide), up_k _ _ (show 2 ≠ 5 by decide), up_k _ _ (show 3 ≠ 5 by decide), up_k _ _ (show 4 ≠ 5 by decide), sM_r _ _ _ _ (show 60 ≠ 64 by decide), sM_r _ _ _ _ (show 61 ≠ 64 by decide), sM_r _ _ _ _ (show 62 ≠ 64 by decide), sM_r _ _ _ _ (show 63 ≠ 64 by decide)]
      replace s3 : rg 6 v = true := s3
      rw [rg_iff] at s3
      omega
theorem wInv.set {S : wg_Sh} {np nt : Nat} {C : wg_C} {M : wg_M} (hs : wg_SC S ∧ wg_SM S) (h1 : IHo np C M) (h2 : IK np nt C M) (h3 : IR nt C M) (h4 : ITp C M) (h5 : ∀ s, s < 4 → ISh C M s) (h6 : M.1 55 14 = 0) (h7 : IT nt S C M) {w p v : Int32} (ho : setOk np w p v = true) : IHo np (setC C w p.toNatClampNeg v) (setM M w p.toNatClampNeg v) ∧ IK np nt (setC C w p.toNatClampNeg v) (setM M w p.toNatClampNeg v) ∧ IR nt (setC C w p.toNatClampNeg v) (setM M w p.toNatClampNeg v) ∧ ITp (setC C w p.toNatClampNeg v) (setM M w p.toNatClampNeg v) ∧ (∀ s, s < 4 → ISh (setC C w p.toNatClampNeg v) (setM M w p.toNatClampNeg v) s) ∧ (setM M w p.toNatClampNeg v).1 55 14 = 0 ∧ IT nt S (setC C w p.toNatClampNeg v) (setM M w p.toNatClampNeg v) := by
  have hp : p.toNatClampNeg < 8 ∨ w = 0 := by
    have e := (setOk_iff.mp ho).1.2
    unfold okP at e
    by_cases w0 : w = 0
    · exact Or.inr w0
    · rw [if_neg w0] at e
      have := cl_lt e
      have := h1.1
      exact Or.inl (by omega)
  refine ⟨h1.set ho, ?_, ?_, ?_, ?_, ?_, ?_⟩
  · exact h2.keep h1.1 (setC_hi _ hp (by omega)) (fun a k q q' => setC_hi _ hp (by omega)) (fun p q => setM_hi _ (by omega)) (fun a k q q' => setM_hi _ (by omega)) (setM_hi _ (by omega)) (setM_hi _ (by omega))
  · exact h3.keep (setC_hi _ hp (by omega)) (setM_hi _ (by omega))
  · exact h4.keep (setC_hi _ hp (by omega)) (fun k => setC_hi _ hp (by omega)) (setM_hi _ (by omega)) (fun k => setM_hi _ (by omega))
  · intro s hs
    exact (h5 s hs).keep (fun k => setC_hi _ hp (by omega)) (fun k => setC_hi _ hp (by omega)) (setM_hi _ (by omega)) (setM_hi _ (by omega)) (setM_hi _ (by omega)) (fun i _ => setM_hi _ (by omega))
  · rw [setM_hi _ (by omega)]; exact h6
  · exact h7.keep (setC_hi _ hp (by omega)) (fun a k q => setC_hi _ hp (by omega)) (setM_hi _ (by omega)) (fun k => setM_hi _ (by omega)) (fun k => setM_hi _ (by omega))
theorem h_set : H_set wInv := by
  intro S C M h hw a1 a2 a3
  obtain ⟨hs, np, nt, h1, h2, h3, h4, h5, h6, h7⟩ := id h
  rw [s8_set h1, s9_set h1]
  by_cases ho : setOk np a1 a2 a3 = true
  · rw [if_pos ho, if_pos ho]
    obtain ⟨g1, g2, g3, g4, g5, g6, g7⟩ := wInv.set hs h1 h2 h3 h4 h5 h6 h7 ho
    exact ⟨_, _, _, rfl, rfl, hs, np, nt, g1, g2, g3, g4, g5, g6, g7⟩
  · rw [if_neg ho, if_neg ho]
    exact ⟨_, _, _, rfl, rfl, h⟩
