/-- what a pane of kind k, number n, shift s shows on a day -/
def showK (sky : Nat → Int32) (k n s d : Int32) : Int32 := if rg 32 d = true then if passV k n s d 0 = true then sky (onV k n s d).toNatClampNeg else -1 else -1
theorem show_K (C : wg_C) (q : Nat) (d : Int32) : showV C q d = showK (C 2) (C q 1) (C q 2) (C q 3) d := rfl
/-- the first place at which it is otherwise, on both sides -/
theorem fo_eq {D : wg_C} {L : wg_M} {s p : Int32} {q : Nat} (hs : rg 4 s = true) {m : Nat} (hm : m ≤ 40) (h3 : (D (44 + 2 * s.toNatClampNeg) 2).toInt = m) (h6 : L.1 73 s.toNatClampNeg = D (44 + 2 * s.toNatClampNeg) 2) (h7 : ∀ i, i < m → L.1 74 (40 * s.toNatClampNeg + i) = D (45 + 2 * s.toNatClampNeg) i) (sh : Int32 → Int32) (h8 : ∀ d, f_X0_shows D q d = some (sh d)) (h9 : ∀ d, f_X9_shows L p d = some (sh d)) (d : Int32) : ∃ v, f_X8_firstOther NN D (44 + 2 * s.toNatClampNeg) q d = some v ∧ f_X9_wrongAt NN L s p d = some v := by
  obtain ⟨r, r', e1, e2, e3⟩ := lp_rel (b := fun o => f_X8_firstOther_l3 NN (44 + 2 * s.toNatClampNeg) q D d o) (c := fun o => f_X9_wrongAt_l3 NN L s p d o) (fun x y => x = y ∧ ∃ k, k ≤ m ∧ x = Int32.ofNat k) (fun x => m - x.toInt.toNat) (fun r q => r = q) (by
    rintro x y ⟨rfl, k, hk, rfl⟩
    have hM := oN_eq h3
    simp only [f_X8_firstOther_l3, f_X9_wrongAt_l3, ck_pos (inb_of hs (Nat.le_refl _)), h6, hM, oN_le (show k < 2147483648 by omega) (show m < 2147483648 by omega), h8, h9, bd_eq]
    by_cases g : m ≤ k
    · right
      simp only [g, if_true]
      exact ⟨_, _, rfl, rfl, rfl⟩
    · have hk' : k < m := by omega
      obtain ⟨p1, p2⟩ := p40 (n := 40) hs (oN_rg (show k < 40 by omega) (by omega)) (Nat.le_refl _)
      have h7' := h7 k hk'
      rw [show 45 + 2 * s.toNatClampNeg = 44 + 2 * s.toNatClampNeg + 1 by omega] at h7'
      simp only [g, if_false, ck_pos p1, ck_pos (oN_inb (show k < 40 by omega) (by omega)), p2, oN_cl (show k < 2147483648 by omega), h7', lt_eq, oN_s]
      by_cases z : D (44 + 2 * s.toNatClampNeg + 1) k = sh (d + Int32.ofNat k)
      · left
        rw [if_pos z, if_pos z.symm]
        refine ⟨_, _, rfl, rfl, ⟨rfl, k + 1, by omega, rfl⟩, ?_⟩
        rw [oN_t (by omega), oN_t (by omega)]
        omega
      · right
        rw [if_neg z, if_neg (fun e => z e.symm)]
        exact ⟨_, _, rfl, rfl, rfl⟩) NN NN 0 0 ⟨rfl, 0, by omega, rfl⟩ (by have := NN_big; show m - _ < NN; omega) (by have := NN_big; show m - _ < NN; omega)
  subst e3
  unfold f_X8_firstOther f_X9_wrongAt
  rw [e1, e2]
  cases r with
  | inl o => exact ⟨_, rfl, rfl⟩
  | inr o => exact ⟨_, rfl, rfl⟩
/-- the guess: only its row differs; and the pane's shift and kind on the other side -/
def gsC (C D : wg_C) : Prop := ∀ a k, a ≠ 40 → D a k = C a k
def gsM (p : Nat) (M L : wg_M) : Prop := ∀ a k, ¬ ((a = 62 ∨ a = 60) ∧ k = p) → L.1 a k = M.1 a k
theorem gsC.keep {C D : wg_C} (h : gsC C D) : keepC C D := fun a k q => h a k (by unfold pC at q; omega)
theorem IHo.sh {np : Nat} {C : wg_C} {M L : wg_M} (h : IHo np C M) {p : Int32} (hp : rg np p = true) (hL : gsM p.toNatClampNeg M L) {k s : Int32} (hk : rg 6 k = true) (hs : -9 ≤ s.toInt ∧ s.toInt ≤ 9) (h60 : L.1 60 p.toNatClampNeg = k) (h62 : L.1 62 p.toNatClampNeg = s) : IHo np (wg_up (wg_up C (4 + p.toNatClampNeg) 1 k) (4 + p.toNatClampNeg) 3 s) L := by
  have hl := cl_lt hp
  have h8 := h.1
  refine h.pane1 hl (fun a j q q' => ?_) ?_ (fun a j q q' q'' => ?_) ?_ ?_
  · rw [up_r _ _ _ _ q', up_r _ _ _ _ q']
  · rw [up_k _ _ (by decide), up_k _ _ (by decide)]
  · exact hL a j (by omega)
  · exact hL _ _ (by omega)
  · have z := h.2.2.2.2.2 _ hl
    rw [rg_iff] at hk
    unfold IP PRg at *
    simp only [up_s, up_k _ _ (show 1 ≠ 3 by decide), up_k _ _ (show 2 ≠ 3 by decide), up_k _ _ (show 4 ≠ 3 by decide), up_k _ _ (show 5 ≠ 3 by decide), up_k _ _ (show 2 ≠ 1 by decide), up_k _ _ (show 4 ≠ 1 by decide), up_k _ _ (show 5 ≠ 1 by decide), h60, h62, hL 61 p.toNatClampNeg (by omega), hL 63 p.toNatClampNeg (by omega), hL 64 p.toNatClampNeg (by omega)]
    obtain ⟨k1, k2, k3, k4, k5, k6⟩ := z
    simp only [k2, k4, k5, true_and]
    omega
theorem gs_shows {np : Nat} {C D : wg_C} {M L : wg_M} (h : IHo np C M) {p : Int32} (hp : rg np p = true) (hC : gsC C D) (hL : gsM p.toNatClampNeg M L) {k s : Int32} (hk : rg 6 k = true) (hs : -9 ≤ s.toInt ∧ s.toInt ≤ 9) (h60 : L.1 60 p.toNatClampNeg = k) (h62 : L.1 62 p.toNatClampNeg = s) (c1 : D 40 1 = k) (c2 : D 40 2 = C (4 + p.toNatClampNeg) 2) (c3 : D 40 3 = s) : (∀ d, f_X0_shows D 40 d = some (showK (C 2) k (C (4 + p.toNatClampNeg) 2) s d)) ∧ (∀ d, f_X9_shows L p d = some (showK (C 2) k (C (4 + p.toNatClampNeg) 2) s d)) ∧ ∀ d, -1 ≤ (showK (C 2) k (C (4 + p.toNatClampNeg) 2) s d).toInt ∧ (showK (C 2) k (C (4 + p.toNatClampNeg) 2) s d).toInt ≤ 9 := by
  have hI := h.sh hp hL hk hs h60 h62
  have hl := cl_lt hp
  have e : ∀ d, showV (wg_up (wg_up C (4 + p.toNatClampNeg) 1 k) (4 + p.toNatClampNeg) 3 s) (4 + p.toNatClampNeg) d = showK (C 2) k (C (4 + p.toNatClampNeg) 2) s d := fun d => by
    rw [show_K, up_s, up_k _ _ (show 1 ≠ 3 by decide), up_s, up_k _ _ (show 2 ≠ 3 by decide), up_k _ _ (show 2 ≠ 1 by decide)]
    congr 1
    funext j
    rw [up_r _ _ _ _ (by omega), up_r _ _ _ _ (by omega)]
  refine ⟨fun d => ?_, fun d => ?_, fun d => ?_⟩
  · rw [s8_shows D 40 d (by rw [c2]; exact h.pn hp), show_K, c1, c2, c3]
    congr 2
    funext j
    exact hC 2 j (by decide)
  · rw [s9_shows hI hp, e]
  · have := show_rg hI (4 + p.toNatClampNeg) d
    rw [e] at this
    exact this
/-- the words of a sheet and a pane that are seen -/
def SeeI (C : wg_C) (M : wg_M) (np : Nat) (s p : Int32) (m : Nat) : Prop := IHo np C M ∧ rg 4 s = true ∧ rg np p = true ∧ m ≤ 40 ∧ (C (44 + 2 * s.toNatClampNeg) 2).toInt = m ∧ M.1 73 s.toNatClampNeg = C (44 + 2 * s.toNatClampNeg) 2 ∧ ∀ i, i < m → M.1 74 (40 * s.toNatClampNeg + i) = C (45 + 2 * s.toNatClampNeg) i
theorem SeeI.fo {C D : wg_C} {M L : wg_M} {np : Nat} {s p : Int32} {m : Nat} (h : SeeI C M np s p m) (hC : gsC C D) (hL : gsM p.toNatClampNeg M L) {q : Nat} (sh : Int32 → Int32) (h8 : ∀ d, f_X0_shows D q d = some (sh d)) (h9 : ∀ d, f_X9_shows L p d = some (sh d)) (d : Int32) : ∃ v, f_X8_firstOther NN D (44 + 2 * s.toNatClampNeg) q d = some v ∧ f_X9_wrongAt NN L s p d = some v := by
  obtain ⟨i1, i2, i3, i4, i5, i6, i7⟩ := h
  refine fo_eq i2 i4 (by rw [hC _ _ (by omega)]; exact i5) (by rw [hC _ _ (by omega), hL _ _ (by omega)]; exact i6) (fun i hi => ?_) sh h8 h9 d
  rw [hC _ _ (by omega), hL _ _ (by omega)]
  exact i7 i hi
theorem sft (k : Nat) (hk : k < 19) : -9 ≤ (Int32.ofNat k - 9).toInt ∧ (Int32.ofNat k - 9).toInt ≤ 9 := by
  rw [i_sub, oN_t (by omega), show (9 : Int32).toInt = 9 from rfl]
  omega
theorem s_shifts {C : wg_C} {M : wg_M} {np : Nat} {s p : Int32} {m : Nat} (h : SeeI C M np s p m) (d : Int32) : ∃ v D L, f_X8_fittingShifts NN C (44 + 2 * s.toNatClampNeg) (4 + p.toNatClampNeg) d = some (v, D) ∧ f_X9_shiftsOf NN M s p d = some (v, L) ∧ gsC C D ∧ ∀ a k, L.1 a k = M.1 a k := by
  obtain ⟨i1, i2, i3, i4, i5, i6, i7⟩ := id h
  have hl := cl_lt i3
  have h8 := i1.1
  have hP := i1.2.2.2.2.2 _ hl
  have hk6 : rg 6 (C (4 + p.toNatClampNeg) 1) = true := by
    have := hP.2.2.2.2.2.1
    rw [rg_iff]
    omega
  unfold f_X8_fittingShifts f_X9_shiftsOf
  rw [s8_bec _ _ _ (by omega), bd_eq, ck_pos (i1.in8 i3)]
  simp only [lt_eq]
  obtain ⟨r, r', e1, e2, e3⟩ := lp_rel (b := fun (o : wg_C × Int32 × Int32) => f_X8_fittingShifts_l14 NN (44 + 2 * s.toNatClampNeg) (4 + p.toNatClampNeg) d o.1 o.2.1 o.2.2) (c := fun (o : wg_M × Int32 × Int32) => f_X9_shiftsOf_l14 NN s p d (M.1 62 p.toNatClampNeg) o.1 o.2.1 o.2.2) (fun x y => x.2 = y.2 ∧ (gsC C x.1 ∧ x.1 40 1 = C (4 + p.toNatClampNeg) 1 ∧ x.1 40 2 = C (4 + p.toNatClampNeg) 2) ∧ (∀ a k, ¬ (a = 62 ∧ k = p.toNatClampNeg) → y.1.1 a k = M.1 a k) ∧ ∃ k, k ≤ 19 ∧ x.2.2 = Int32.ofNat k) (fun x => 19 - x.2.2.toInt.toNat) (fun r q => r.2 = q.2 ∧ gsC C r.1 ∧ ∀ a k, ¬ (a = 62 ∧ k = p.toNatClampNeg) → q.1.1 a k = M.1 a k) (by
    rintro ⟨C', v, w⟩ ⟨M', v', w'⟩ ⟨e1, ⟨c0, c1, c2⟩, c3, k, hk, e2⟩
    simp only [Prod.mk.injEq] at e1 e2 c0 c1 c2 c3
    obtain ⟨rfl, rfl⟩ := e1
    subst e2
    have g8 : (18 : Int32) < Int32.ofNat k ↔ ¬ k < 19 := by
      rw [i_lt, oN_t (by omega), show (18 : Int32).toInt = 18 from rfl]
      omega
    have g9 : (19 : Int32) ≤ Int32.ofNat k ↔ ¬ k < 19 := by
      rw [i_le, oN_t (by omega), show (19 : Int32).toInt = 19 from rfl]
      omega
    simp only [f_X8_fittingShifts_l14, f_X9_shiftsOf_l14, f_X9_shiftsOf_j50l14, g8, g9, lt_eq, ck_pos (i1.in8 i3)]
    by_cases g : k < 19
    · left
      have q1 : gsC C (wg_up C' 40 3 (Int32.ofNat k - 9)) := fun a j q => by rw [up_r _ _ _ _ q]; exact c0 a j q
      have y1 : wg_up C' 40 3 (Int32.ofNat k - 9) 40 1 = C (4 + p.toNatClampNeg) 1 := (up_k C' _ (show 1 ≠ 3 by decide)).trans c1
      have y2 : wg_up C' 40 3 (Int32.ofNat k - 9) 40 2 = C (4 + p.toNatClampNeg) 2 := (up_k C' _ (show 2 ≠ 3 by decide)).trans c2
      have q2 : gsM p.toNatClampNeg M (wg_sM M' 62 p.toNatClampNeg (Int32.ofNat k - 9)) := fun a j q => by
        by_cases z : a = 62
        · rw [sM_k _ _ (by omega)]; exact c3 a j (by omega)
        · rw [sM_r _ _ _ _ z]; exact c3 a j (by omega)
      obtain ⟨t1, t2, t3⟩ := gs_shows (D := wg_up C' 40 3 (Int32.ofNat k - 9)) i1 i3 q1 q2 hk6 (sft k g) (by rw [sM_r _ _ _ _ (by decide), c3 _ _ (by omega)]; exact hP.1) (sM_s _ _ _ _) (by rw [up_k _ _ (by decide)]; exact c1) (by rw [up_k _ _ (by decide)]; exact c2) (up_s _ _ _ _)
      obtain ⟨u, u1, u2⟩ := h.fo q1 q2 _ t1 t2 d
      simp only [g, not_true, if_false, u1, u2, bd_eq]
      have hμ : 19 - (Int32.ofNat k + 1).toInt.toNat < 19 - (Int32.ofNat k).toInt.toNat := by
        rw [oN_s, oN_t (by omega), oN_t (by omega)]
        omega
      have q3 : ∀ a j, ¬ (a = 62 ∧ j = p.toNatClampNeg) → (wg_sM M' 62 p.toNatClampNeg (Int32.ofNat k - 9)).1 a j = M.1 a j := fun a j q => by
        by_cases z : a = 62
        · rw [sM_k _ _ (by omega)]; exact c3 a j q
        · rw [sM_r _ _ _ _ z]; exact c3 a j q
      by_cases z : u = -1
      · rw [if_pos z, if_pos z]
        exact ⟨_, _, rfl, rfl, ⟨rfl, ⟨q1, y1, y2⟩, q3, k + 1, by omega, oN_s k⟩, hμ⟩
      · rw [if_neg z, if_neg z]
        exact ⟨_, _, rfl, rfl, ⟨by simp, ⟨q1, y1, y2⟩, q3, k + 1, by omega, oN_s k⟩, hμ⟩
    · right
      simp only [g, not_false_eq_true, if_true]
      exact ⟨_, _, rfl, rfl, rfl, c0, c3⟩) NN NN ((fun a j => if a = 40 ∧ 1 ≤ j ∧ j ≤ 5 then C (4 + p.toNatClampNeg) j else C a j), 0, 0) (M, 0, 0) ⟨rfl, ⟨fun a j q => if_neg (fun e => q e.1), rfl, rfl⟩, fun a j q => rfl, 0, by omega, rfl⟩ (by have := NN_big; show 19 - _ < NN; omega) (by have := NN_big; show 19 - _ < NN; omega)
  rw [e1, e2]
  obtain ⟨D, v, w⟩ := r
  obtain ⟨L, v', w'⟩ := r'
  obtain ⟨f1, f2, f3⟩ := e3
  simp only [Prod.mk.injEq] at f1 f2 f3
  obtain ⟨rfl, rfl⟩ := f1
  simp only [bd3_eq, ck_pos (i1.in8 i3)]
  refine ⟨_, _, _, rfl, rfl, f2, fun a j => ?_⟩
  by_cases z : a = 62 ∧ j = p.toNatClampNeg
  · obtain ⟨rfl, rfl⟩ := z
    exact sM_s _ _ _ _
  · by_cases y : a = 62
    · rw [sM_k _ _ (by omega)]; exact f3 a j z
    · rw [sM_r _ _ _ _ y]; exact f3 a j z
theorem s_kinds {C : wg_C} {M : wg_M} {np : Nat} {s p : Int32} {m : Nat} (h : SeeI C M np s p m) (d : Int32) : ∃ v D L, f_X8_fittingKinds NN C (44 + 2 * s.toNatClampNeg) (4 + p.toNatClampNeg) d = some (v, D) ∧ bd3 (lp (fun (o : wg_M × Int32 × Int32) => f_X9_seen_l76 NN s p d (M.1 60 p.toNatClampNeg) o.1 o.2.1 o.2.2) NN (M, (0 : Int32), (0 : Int32))) (fun M22 v23 v24 => some (v23, wg_sM M22 60 p.toNatClampNeg (M.1 60 p.toNatClampNeg))) = some (v, L) ∧ gsC C D ∧ ∀ a k, L.1 a k = M.1 a k := by
  obtain ⟨i1, i2, i3, i4, i5, i6, i7⟩ := id h
  have hl := cl_lt i3
  have h8 := i1.1
  have hP := i1.2.2.2.2.2 _ hl
  have hs9 : -9 ≤ (C (4 + p.toNatClampNeg) 3).toInt ∧ (C (4 + p.toNatClampNeg) 3).toInt ≤ 9 := hP.2.2.2.2.2.2.2.1
  unfold f_X8_fittingKinds
  rw [s8_bec _ _ _ (by omega), bd_eq]
  obtain ⟨r, r', e1, e2, e3⟩ := lp_rel (b := fun (o : wg_C × Int32 × Int32) => f_X8_fittingKinds_l14 NN (44 + 2 * s.toNatClampNeg) (4 + p.toNatClampNeg) d o.1 o.2.1 o.2.2) (c := fun (o : wg_M × Int32 × Int32) => f_X9_seen_l76 NN s p d (M.1 60 p.toNatClampNeg) o.1 o.2.1 o.2.2) (fun x y => x.2 = y.2 ∧ (gsC C x.1 ∧ x.1 40 3 = C (4 + p.toNatClampNeg) 3 ∧ x.1 40 2 = C (4 + p.toNatClampNeg) 2) ∧ (∀ a k, ¬ (a = 60 ∧ k = p.toNatClampNeg) → y.1.1 a k = M.1 a k) ∧ ∃ k, k ≤ 6 ∧ x.2.2 = Int32.ofNat k) (fun x => 6 - x.2.2.toInt.toNat) (fun r q => r.2 = q.2 ∧ gsC C r.1 ∧ ∀ a k, ¬ (a = 60 ∧ k = p.toNatClampNeg) → q.1.1 a k = M.1 a k) (by
    rintro ⟨C', v, w⟩ ⟨M', v', w'⟩ ⟨e1, ⟨c0, c1, c2⟩, c3, k, hk, e2⟩
    simp only [Prod.mk.injEq] at e1 e2 c0 c1 c2 c3
    obtain ⟨rfl, rfl⟩ := e1
    subst e2
    have g8 : (5 : Int32) < Int32.ofNat k ↔ ¬ k < 6 := by
      rw [i_lt, oN_t (by omega), show (5 : Int32).toInt = 5 from rfl]
      omega
    simp only [f_X8_fittingKinds_l14, f_X9_seen_l76, f_X9_seen_j108l76, g8, lt_eq, ck_pos (i1.in8 i3)]
    by_cases g : k < 6
    · left
      have q1 : gsC C (wg_up C' 40 1 (Int32.ofNat k)) := fun a j q => by rw [up_r _ _ _ _ q]; exact c0 a j q
      have y1 : wg_up C' 40 1 (Int32.ofNat k) 40 3 = C (4 + p.toNatClampNeg) 3 := (up_k C' _ (show 3 ≠ 1 by decide)).trans c1
      have y2 : wg_up C' 40 1 (Int32.ofNat k) 40 2 = C (4 + p.toNatClampNeg) 2 := (up_k C' _ (show 2 ≠ 1 by decide)).trans c2
      have q2 : gsM p.toNatClampNeg M (wg_sM M' 60 p.toNatClampNeg (Int32.ofNat k)) := fun a j q => by
        by_cases z : a = 60
        · rw [sM_k _ _ (by omega)]; exact c3 a j (by omega)
        · rw [sM_r _ _ _ _ z]; exact c3 a j (by omega)
      obtain ⟨t1, t2, t3⟩ := gs_shows (D := wg_up C' 40 1 (Int32.ofNat k)) i1 i3 q1 q2 (oN_rg g (by decide)) hs9 (sM_s _ _ _ _) (by rw [sM_r _ _ _ _ (by decide), c3 _ _ (by omega)]; exact hP.2.2.1) (up_s _ _ _ _) (by rw [up_k _ _ (by decide)]; exact c2) (by rw [up_k _ _ (by decide)]; exact c1)
      obtain ⟨u, u1, u2⟩ := h.fo q1 q2 _ t1 t2 d
      simp only [g, not_true, if_false, u1, u2, bd_eq]
      have hμ : 6 - (Int32.ofNat k + 1).toInt.toNat < 6 - (Int32.ofNat k).toInt.toNat := by
        rw [oN_s, oN_t (by omega), oN_t (by omega)]
        omega
      have q3 : ∀ a j, ¬ (a = 60 ∧ j = p.toNatClampNeg) → (wg_sM M' 60 p.toNatClampNeg (Int32.ofNat k)).1 a j = M.1 a j := fun a j q => by
        by_cases z : a = 60
        · rw [sM_k _ _ (by omega)]; exact c3 a j q
        · rw [sM_r _ _ _ _ z]; exact c3 a j q
      by_cases z : u = -1
      · rw [if_pos z, if_pos z]
        exact ⟨_, _, rfl, rfl, ⟨rfl, ⟨q1, y1, y2⟩, q3, k + 1, by omega, oN_s k⟩, hμ⟩
      · rw [if_neg z, if_neg z]
        exact ⟨_, _, rfl, rfl, ⟨by simp, ⟨q1, y1, y2⟩, q3, k + 1, by omega, oN_s k⟩, hμ⟩
    · right
      simp only [g, not_false_eq_true, if_true]
      exact ⟨_, _, rfl, rfl, rfl, c0, c3⟩) NN NN ((fun a j => if a = 40 ∧ 1 ≤ j ∧ j ≤ 5 then C (4 + p.toNatClampNeg) j else C a j), 0, 0) (M, 0, 0) ⟨rfl, ⟨fun a j q => if_neg (fun e => q e.1), rfl, rfl⟩, fun a j q => rfl, 0, by omega, rfl⟩ (by have := NN_big; show 6 - _ < NN; omega) (by have := NN_big; show 6 - _ < NN; omega)
  rw [e1, e2]
  obtain ⟨D, v, w⟩ := r
  obtain ⟨L, v', w'⟩ := r'
  obtain ⟨f1, f2, f3⟩ := e3
  simp only [Prod.mk.injEq] at f1 f2 f3
  obtain ⟨rfl, rfl⟩ := f1
  simp only [bd3_eq]
  refine ⟨_, _, _, rfl, rfl, f2, fun a j => ?_⟩
  by_cases z : a = 60 ∧ j = p.toNatClampNeg
  · obtain ⟨rfl, rfl⟩ := z
    exact sM_s _ _ _ _
  · by_cases y : a = 60
    · rw [sM_k _ _ (by omega)]; exact f3 a j z
    · rw [sM_r _ _ _ _ y]; exact f3 a j z
/-- what refuses a look -/
def lookR (np : Nat) (C : wg_C) (s p d : Int32) : Int32 := if rg 4 s = true then if rg np p = true then if rg 32 d = true then if C (44 + 2 * s.toNatClampNeg) 1 = -1 then -11 else if C (44 + 2 * s.toNatClampNeg) 2 ≤ 10 then 0 else -2 else -2 else -2 else -2
theorem s9_look {np : Nat} {C : wg_C} {M : wg_M} (h1 : IHo np C M) (h5 : ∀ s, s < 4 → ISh C M s) (s p d : Int32) : f_X9_seenBad M s p d = some (lookR np C s p d) := by
  unfold f_X9_seenBad lookR
  simp only [s9_isSheet, p9_isPane h1, s9_isDay, bd_eq, if_bI]
  by_cases g1 : rg 4 s = true
  · have hl := cl_lt g1
    by_cases g2 : rg np p = true
    · by_cases g3 : rg 32 d = true
      · simp only [g1, g2, g3, if_true, ck_pos (inb_of g1 (Nat.le_refl _)), (h5 _ hl).no]
        by_cases g4 : C (44 + 2 * s.toNatClampNeg) 1 = -1
        · simp only [g4, if_true]
        · obtain ⟨m, n1, n2, n3, n4, n5, n6, n7⟩ := (h5 _ hl).yes g4
          simp only [g4, if_false, n6]
          split <;> rfl
      · simp only [g1, g2, g3, if_true]; rfl
    · simp only [g1, g2, if_true]; rfl
  · simp only [g1]; rfl
theorem s8_look {np : Nat} {C : wg_C} {M : wg_M} (h1 : IHo np C M) (s p d w : Int32) (n : Nat) (hn : n < 100) : f_X8_refusalOfLook C s p d w (Int32.ofNat n) = some (if rg (n + 1) w = true then lookR np C s p d else -2) := by
  unfold f_X8_refusalOfLook lookR
  have e : ∀ (x : Option Int32), (if w < 0 then some (-2 : Int32) else if w ≤ Int32.ofNat n then x else some (-2)) = if rg (n + 1) w = true then x else some (-2) := fun x => by
    have := rg_iff (n + 1) w
    simp only [i_lt, i_le, oN_t (show n < 2147483648 by omega), Int32.toInt_zero]
    by_cases g : rg (n + 1) w = true
    · have := this.mp g
      rw [if_neg (by omega), if_pos (by omega), if_pos g]
    · have : ¬ (0 ≤ w.toInt ∧ w.toInt < (n + 1 : Nat)) := fun z => g (this.mpr z)
      rw [if_neg g]
      by_cases g0 : w.toInt < 0
      · rw [if_pos g0]
      · rw [if_neg g0, if_neg (by omega)]
  simp only [e, s8_isSheet, p8_has h1, s8_isDay, bd_eq, if_bI]
  by_cases g1 : rg 4 s = true
  · by_cases g2 : rg np p = true
    · by_cases g3 : rg 32 d = true
      · simp only [g1, g2, g3, if_true, ck_pos (inb_of g1 (Nat.le_refl _)), s8_missing, bd_eq, if_bI]
        repeat' split
        all_goals rfl
      · simp only [g1, g2, g3, if_true, Bool.false_eq_true, if_false, ite_self]
    · simp only [g1, g2, if_true, Bool.false_eq_true, if_false, ite_self]
  · simp only [g1, Bool.false_eq_true, if_false, ite_self]
theorem look0 {np : Nat} {C : wg_C} {M : wg_M} (h1 : IHo np C M) (h5 : ∀ s, s < 4 → ISh C M s) {s p d : Int32} (h : lookR np C s p d = 0) : ∃ m, SeeI C M np s p m := by
  unfold lookR at h
  by_cases g1 : rg 4 s = true
  · by_cases g2 : rg np p = true
    · by_cases g3 : rg 32 d = true
      · rw [if_pos g1, if_pos g2, if_pos g3] at h
        by_cases g4 : C (44 + 2 * s.toNatClampNeg) 1 = -1
        · rw [if_pos g4] at h
          exact absurd h (by decide)
        · obtain ⟨m, n1, n2, n3, n4, n5, n6, n7⟩ := (h5 _ (cl_lt g1)).yes g4
          exact ⟨m, h1, g1, g2, n1, n3, n6, n7⟩
      · rw [if_pos g1, if_pos g2, if_neg g3] at h
        exact absurd h (by decide)
    · rw [if_pos g1, if_neg g2] at h
      exact absurd h (by decide)
  · rw [if_neg g1] at h
    exact absurd h (by decide)
theorem wInv.same {S : wg_Sh} {C D : wg_C} {M L : wg_M} (h : wInv S C M) (hC : gsC C D) (hM : ∀ a k, L.1 a k = M.1 a k) : wInv S D L := h.keep hC.keep (fun a k _ => hM a k)
theorem h_seen : H_seen wInv := by
  intro S C M h hw s p d w
  obtain ⟨hs, np, nt, h1, h2, h3, h4, h5, h6, h7⟩ := id h
  unfold f_X8_seen f_X9_seen
  simp only [s8_look h1 s p d w 2 (by decide), show (2 : Int32) = Int32.ofNat 2 from rfl, s_inr w (Int64.ofInt 2) 3 rfl, s9_look h1 h5, bd_eq, if_bI]
  rw [show f_X9_in w.toInt64 0 2 = some (bI (rg 3 w = true)) from s_inr w 2 3 rfl]
  simp only [bd_eq, if_bI]
  by_cases g1 : rg 3 w = true
  · simp only [g1, if_true]
    by_cases g2 : lookR np C s p d = 0
    · obtain ⟨m, hm⟩ := look0 h1 h5 g2
      obtain ⟨i1, i2, i3, i4, i5, i6, i7⟩ := id hm
      simp only [g2, if_true, ck_pos (inb_of i2 (Nat.le_refl _)), ck_pos (i1.in8 i3), lt_eq]
      have hw2 : w = 0 ∨ w = 1 ∨ w = 2 := by
        rw [rg_iff] at g1
        simp only [i_eq]
        show _ = (0 : Int) ∨ _ = (1 : Int) ∨ _ = (2 : Int)
        omega
      rcases hw2 with rfl | rfl | rfl
      · obtain ⟨v, v1, v2⟩ := hm.fo (D := C) (L := M) (fun _ _ _ => rfl) (fun _ _ _ => rfl) _ (fun d => s8_shows C (4 + p.toNatClampNeg) d (h1.pn i3)) (fun d => s9_shows h1 i3 d) d
        rw [if_pos rfl, v1, if_neg (by decide), if_pos rfl, v2]
        exact ⟨_, _, _, rfl, rfl, h⟩
      · obtain ⟨v, D, L, v1, v2, v3, v4⟩ := s_shifts hm d
        rw [if_neg (by decide), if_pos rfl, v1, if_neg (by decide), if_neg (by decide), v2]
        exact ⟨_, _, _, rfl, rfl, h.same v3 v4⟩
      · obtain ⟨v, D, L, v1, v2, v3, v4⟩ := s_kinds hm d
        rw [if_neg (by decide), if_neg (by decide), v1, if_pos (by decide), v2]
        exact ⟨_, _, _, rfl, rfl, h.same v3 v4⟩
    · simp only [g2, if_false]
      exact ⟨_, _, _, rfl, rfl, h⟩
  · simp only [g1]
    exact ⟨_, _, _, rfl, rfl, h⟩
