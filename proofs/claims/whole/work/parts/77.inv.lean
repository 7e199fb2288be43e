/-- a pane of the house and the same one of the reference -/
def IP (C : wg_C) (M : wg_M) (p : Nat) : Prop := M.1 60 p = C (4 + p) 1 ∧ M.1 61 p = C (4 + p) 2 ∧ M.1 62 p = C (4 + p) 3 ∧ M.1 63 p = C (4 + p) 4 ∧ M.1 64 p = C (4 + p) 5 ∧ PRg (C (4 + p) 1) (C (4 + p) 2) (C (4 + p) 3) (C (4 + p) 4) (C (4 + p) 5)
def IS (C : wg_C) (M : wg_M) (d : Nat) : Prop := M.1 59 d = C 2 d ∧ 0 ≤ (C 2 d).toInt ∧ (C 2 d).toInt ≤ 9
def IHo (np : Nat) (C : wg_C) (M : wg_M) : Prop := np ≤ 8 ∧ (C 1 2).toInt = np ∧ M.1 55 13 = C 1 2 ∧ (∀ d, d < 32 → IS C M d) ∧ (∀ p, p < 8 → (C (4 + p) 0).toInt = p) ∧ ∀ p, p < np → IP C M p
def IPk (C : wg_C) (M : wg_M) (p : Nat) : Prop := M.1 60 p = C (15 + p) 1 ∧ M.1 70 p = C (15 + p) 2 ∧ M.1 70 (8 + p) = C (15 + p) 3 ∧ M.1 70 (16 + p) = C (15 + p) 4 ∧ M.1 70 (24 + p) = C (15 + p) 5 ∧ PRg (C (15 + p) 1) (C (15 + p) 2) (C (15 + p) 3) (C (15 + p) 4) (C (15 + p) 5)
def ISk (C : wg_C) (M : wg_M) (d : Nat) : Prop := M.1 69 d = C 13 d ∧ 0 ≤ (C 13 d).toInt ∧ (C 13 d).toInt ≤ 9
/-- what the image keeps -/
def IKb (np nt : Nat) (C : wg_C) (M : wg_M) : Prop := ∃ kp : Nat, kp ≤ np ∧ (C 12 2).toInt = kp ∧ M.1 55 38 = C 12 2 ∧ M.1 55 39 = C 12 3 ∧ (0 ≤ (C 12 3).toInt ∧ (C 12 3).toInt < nt) ∧ (∀ d, d < 32 → ISk C M d) ∧ ∀ p, p < kp → IPk C M p
def IK (np nt : Nat) (C : wg_C) (M : wg_M) : Prop := (C 0 2 = 0 ∧ M.1 55 38 = -1) ∨ (C 0 2 = 1 ∧ IKb np nt C M)
def IR (nt : Nat) (C : wg_C) (M : wg_M) : Prop := M.1 55 4 = C 1 3 ∧ 0 ≤ (C 1 3).toInt ∧ (C 1 3).toInt < nt
/-- the tape -/
def ITp (C : wg_C) (M : wg_M) : Prop := ∃ n : Nat, n ≤ 160 ∧ (C 23 1).toInt = n ∧ M.1 55 6 = C 23 1 ∧ ∀ i, i < n → M.1 58 i = C 24 i ∧ 0 ≤ (C 24 i).toInt ∧ (C 24 i).toInt ≤ 255
/-- a sheet -/
def IShb (C : wg_C) (M : wg_M) (s : Nat) : Prop := ∃ n : Nat, n ≤ 40 ∧ (0 ≤ (C (44 + 2 * s) 1).toInt ∧ (C (44 + 2 * s) 1).toInt ≤ 2) ∧ (C (44 + 2 * s) 2).toInt = n ∧ M.1 71 s = 1 ∧ M.1 72 s = C (44 + 2 * s) 1 ∧ M.1 73 s = C (44 + 2 * s) 2 ∧ ∀ i, i < n → M.1 74 (40 * s + i) = C (45 + 2 * s) i
def ISh (C : wg_C) (M : wg_M) (s : Nat) : Prop := (C (44 + 2 * s) 1 = -1 ∧ M.1 71 s = 0) ∨ IShb C M s
/-- the cells that last -/
def pC (a k : Nat) : Prop := a ≤ 22 ∨ (a = 23 ∧ k = 1) ∨ a = 24 ∨ a = 31 ∨ 44 ≤ a
def pM (a k : Nat) : Prop := (a = 55 ∧ (k = 3 ∨ k = 4 ∨ k = 6 ∨ k = 13 ∨ k = 14 ∨ k = 38 ∨ k = 39)) ∨ (56 ≤ a ∧ a ≤ 64) ∨ (69 ≤ a ∧ a ≤ 74)
def keepC (C D : wg_C) : Prop := ∀ a k, pC a k → D a k = C a k
def keepM (M L : wg_M) : Prop := ∀ a k, pM a k → L.1 a k = M.1 a k
theorem keepC.rfl {C : wg_C} : keepC C C := fun _ _ _ => by trivial
theorem keepM.rfl {M : wg_M} : keepM M M := fun _ _ _ => by trivial
theorem keepC.tr {C D E : wg_C} (h : keepC C D) (k : keepC D E) : keepC C E := fun a i q => (k a i q).trans (h a i q)
theorem keepM.tr {C D E : wg_M} (h : keepM C D) (k : keepM D E) : keepM C E := fun a i q => (k a i q).trans (h a i q)
theorem keepC.up {C D : wg_C} (h : keepC C D) {a k : Nat} (v : Int32) (q : ¬ pC a k) : keepC C (wg_up D a k v) := by
  intro b j hb
  rw [← h b j hb]
  unfold wg_up
  by_cases h1 : b = a
  · by_cases h2 : j = k
    · subst h1; subst h2; exact absurd hb q
    · simp [h2]
  · simp [h1]
theorem keepM.up {M L : wg_M} (h : keepM M L) {a k : Nat} (v : Int32) (q : ¬ pM a k) : keepM M (wg_sM L a k v) := by
  intro b j hb
  rw [← h b j hb]
  unfold wg_sM wg_up
  by_cases h1 : b = a
  · by_cases h2 : j = k
    · subst h1; subst h2; exact absurd hb q
    · simp [h2]
  · simp [h1]
theorem keepM.upJ {M L : wg_M} (h : keepM M L) {a : Nat} (v : Int64) : keepM M (wg_sJ L a v) := fun b j hb => h b j hb
theorem IHo.keep {np : Nat} {C D : wg_C} {M L : wg_M} (h : IHo np C M) (hC : ∀ a k, a ≤ 11 → D a k = C a k) (hM : ∀ a k, 59 ≤ a → a ≤ 64 → L.1 a k = M.1 a k) (hn : L.1 55 13 = M.1 55 13) : IHo np D L := by
  obtain ⟨h1, h2, h3, h4, h5, h6⟩ := h
  refine ⟨h1, by rw [hC 1 2 (by omega)]; exact h2, by rw [hn, hC 1 2 (by omega)]; exact h3, ?_, ?_, ?_⟩
  · intro d hd
    obtain ⟨q1, q2⟩ := h4 d hd
    exact ⟨by rw [hC 2 d (by omega), hM 59 d (by omega) (by omega)]; exact q1, by rw [hC 2 d (by omega)]; exact q2⟩
  · intro p hp
    rw [hC (4 + p) 0 (by omega)]
    exact h5 p hp
  · intro p hp
    have := h6 p hp
    unfold IP at *
    simp only [hC (4 + p) _ (show 4 + p ≤ 11 by omega), hM _ p (show 59 ≤ 60 by omega) (by omega), hM 61 p (by omega) (by omega), hM 62 p (by omega) (by omega), hM 63 p (by omega) (by omega), hM 64 p (by omega) (by omega)]
    exact this
theorem IK.keep {np nt : Nat} {C D : wg_C} {M L : wg_M} (h : IK np nt C M) (hn8 : np ≤ 8) (hC0 : D 0 2 = C 0 2) (hC : ∀ a k, 12 ≤ a → a ≤ 22 → D a k = C a k) (h60 : ∀ p, p < np → L.1 60 p = M.1 60 p) (hM : ∀ a k, 69 ≤ a → a ≤ 70 → L.1 a k = M.1 a k) (h38 : L.1 55 38 = M.1 55 38) (h39 : L.1 55 39 = M.1 55 39) : IK np nt D L := by
  unfold IK IKb at *
  rw [hC0, h38, h39]
  rcases h with h | ⟨h0, kp, h1, h2, h3, h4, h5, h6, h7⟩
  · exact Or.inl h
  · refine Or.inr ⟨h0, kp, h1, ?_, ?_, ?_, ?_, ?_, ?_⟩
    · rw [hC 12 2 (by omega) (by omega)]; exact h2
    · rw [hC 12 2 (by omega) (by omega)]; exact h3
    · rw [hC 12 3 (by omega) (by omega)]; exact h4
    · rw [hC 12 3 (by omega) (by omega)]; exact h5
    · intro d hd
      have := h6 d hd
      unfold ISk at *
      rw [hC 13 d (by omega) (by omega), hM 69 d (by omega) (by omega)]
      exact this
    · intro p hp
      have := h7 p hp
      unfold IPk at *
      simp only [hC (15 + p) _ (show 12 ≤ 15 + p by omega) (by omega), h60 p (by omega), hM 70 _ (by omega) (by omega)]
      exact this
theorem IR.keep {nt : Nat} {C D : wg_C} {M L : wg_M} (h : IR nt C M) (hC : D 1 3 = C 1 3) (hM : L.1 55 4 = M.1 55 4) : IR nt D L := by
  unfold IR at *
  rw [hC, hM]
  exact h
theorem ITp.keep {C D : wg_C} {M L : wg_M} (h : ITp C M) (hC : D 23 1 = C 23 1) (hD : ∀ k, D 24 k = C 24 k) (hM : L.1 55 6 = M.1 55 6) (hL : ∀ k, L.1 58 k = M.1 58 k) : ITp D L := by
  unfold ITp at *
  simp only [hC, hM, hD, hL]
  exact h
theorem ISh.keep {s : Nat} {C D : wg_C} {M L : wg_M} (h : ISh C M s) (h1 : ∀ k, D (44 + 2 * s) k = C (44 + 2 * s) k) (h2 : ∀ k, D (45 + 2 * s) k = C (45 + 2 * s) k) (h3 : L.1 71 s = M.1 71 s) (h4 : L.1 72 s = M.1 72 s) (h5 : L.1 73 s = M.1 73 s) (h6 : ∀ i, i < 40 → L.1 74 (40 * s + i) = M.1 74 (40 * s + i)) : ISh D L s := by
  unfold ISh IShb at *
  rw [h1, h1, h3, h4, h5]
  rcases h with h | ⟨n, hn, q1, q2, q3, q4, q5, q6⟩
  · exact Or.inl h
  · refine Or.inr ⟨n, hn, q1, q2, q3, q4, q5, ?_⟩
    intro i hi
    rw [h2, h6 i (by omega)]
    exact q6 i hi
/-- a text: what its parts say is the same on both sides -/
def ITx (S : wg_Sh) (C : wg_C) (M : wg_M) (t : Nat) : Prop := ∃ (id : Nat) (val : Int32 → Int32 → Int32 → Int32 → Int32 → Int32 → Int32 → Int32), S.1 32 t = some id ∧ 52 ≤ id ∧ (∀ D : wg_C, (∀ k, D (id + 1) k = C (id + 1) k) → (∀ k, D (id + 2) k = C (id + 2) k) → ∀ w : Int32, 0 ≤ w.toInt → w.toInt < 3 → ∃ D1 : wg_C, f_X3_reckon NN S D id w = some (val w (D 33 0) (D 33 1) (D 33 2) (D 33 3) (D 33 4) (D 33 5), D1) ∧ ∀ a k, a ≠ 34 → D1 a k = D a k) ∧ (∀ L : wg_M, (∀ i, i < 160 → L.1 56 (160 * t + i) = M.1 56 (160 * t + i)) → L.1 57 t = M.1 57 t → ∀ w : Int32, 0 ≤ w.toInt → w.toInt < 3 → ∃ L1 : wg_M, f_X9_read NN L (Int32.ofNat t) w = some (val w (L.1 55 15) (L.1 55 16) (L.1 55 17) (L.1 55 18) (L.1 55 19) (L.1 55 20), L1) ∧ ∀ a k, a ≠ 55 ∨ k ≤ 20 ∨ 30 ≤ k → L1.1 a k = L.1 a k)
def IT (nt : Nat) (S : wg_Sh) (C : wg_C) (M : wg_M) : Prop := (1 ≤ nt ∧ nt ≤ 6) ∧ (C 31 1).toInt = nt ∧ M.1 55 3 = C 31 1 ∧ ∀ t, t < nt → ITx S C M t
theorem IT.keep {nt : Nat} {S : wg_Sh} {C D : wg_C} {M L : wg_M} (h : IT nt S C M) (hC : D 31 1 = C 31 1) (hD : ∀ a k, 52 ≤ a → D a k = C a k) (hM : L.1 55 3 = M.1 55 3) (h56 : ∀ k, L.1 56 k = M.1 56 k) (h57 : ∀ k, L.1 57 k = M.1 57 k) : IT nt S D L := by
  unfold IT at *
  rw [hC, hM]
  obtain ⟨h1, h2, h3, h4⟩ := h
  refine ⟨h1, h2, h3, ?_⟩
  intro t ht
  obtain ⟨id, val, q1, q2, q3, q4⟩ := h4 t ht
  refine ⟨id, val, q1, q2, ?_, ?_⟩
  · intro E e1 e2 w w1 w2
    exact q3 E (fun k => by rw [e1, hD _ _ (by omega)]) (fun k => by rw [e2, hD _ _ (by omega)]) w w1 w2
  · intro E e1 e2 w w1 w2
    exact q4 E (fun k hk => by rw [e1 k hk, h56]) (by rw [e2, h57]) w w1 w2
def wInv (S : wg_Sh) (C : wg_C) (M : wg_M) : Prop := (wg_SC S ∧ wg_SM S) ∧ ∃ np nt : Nat, IHo np C M ∧ IK np nt C M ∧ IR nt C M ∧ ITp C M ∧ (∀ s, s < 4 → ISh C M s) ∧ M.1 55 14 = 0 ∧ IT nt S C M
theorem wInv.keep {S : wg_Sh} {C D : wg_C} {M L : wg_M} (h : wInv S C M) (hC : keepC C D) (hM : keepM M L) : wInv S D L := by
  obtain ⟨hs, np, nt, h1, h2, h3, h4, h5, h6, h7⟩ := h
  refine ⟨hs, np, nt, ?_, ?_, ?_, ?_, ?_, ?_, ?_⟩
  · exact h1.keep (fun a k q => hC a k (Or.inl (by omega))) (fun a k q q' => hM a k (Or.inr (Or.inl ⟨by omega, q'⟩))) (hM 55 13 (by simp [pM]))
  · exact h2.keep h1.1 (hC 0 2 (by simp [pC])) (fun a k q q' => hC a k (Or.inl (by omega))) (fun p q => hM 60 p (by simp [pM])) (fun a k q q' => hM a k (Or.inr (Or.inr ⟨q, by omega⟩))) (hM 55 38 (by simp [pM])) (hM 55 39 (by simp [pM]))
  · exact h3.keep (hC 1 3 (by simp [pC])) (hM 55 4 (by simp [pM]))
  · exact h4.keep (hC 23 1 (by simp [pC])) (fun k => hC 24 k (by simp [pC])) (hM 55 6 (by simp [pM])) (fun k => hM 58 k (by simp [pM]))
  · intro s hs
    exact (h5 s hs).keep (fun k => hC _ k (by unfold pC; omega)) (fun k => hC _ k (by unfold pC; omega)) (hM 71 s (by simp [pM])) (hM 72 s (by simp [pM])) (hM 73 s (by simp [pM])) (fun i _ => hM 74 _ (by simp [pM]))
  · rw [hM 55 14 (by simp [pM])]
    exact h6
  · exact h7.keep (hC 31 1 (by simp [pC])) (fun a k q => hC a k (by unfold pC; omega)) (hM 55 3 (by simp [pM])) (fun k => hM 56 k (by simp [pM])) (fun k => hM 57 k (by simp [pM]))
