theorem s_unlike {C D : wg_C} {M L : wg_M} {np : Nat} {p : Int32} (i1 : IHo np C M) (i3 : rg np p = true) (hC : gsC C D) (hL : ∀ a k, L.1 a k = M.1 a k) (S9 : Int32) (d : Int32) : ∃ v E K, f_X8_unlikeShown NN D (4 + p.toNatClampNeg) S9 d = some (v, E) ∧ f_X9_unlikeOn NN L p d S9 = some (v, K) ∧ gsC C E ∧ ∀ a k, K.1 a k = M.1 a k := by
  have hl := cl_lt i3
  have h8 := i1.1
  have hP := i1.2.2.2.2.2 _ hl
  have hk6 : rg 6 (C (4 + p.toNatClampNeg) 1) = true := by
    have := hP.2.2.2.2.2.1
    rw [rg_iff]
    omega
  unfold f_X8_unlikeShown f_X9_unlikeOn
  rw [s8_bec _ _ _ (by omega), bd_eq, ck_pos (i1.in8 i3)]
  simp only [lt_eq]
  obtain ⟨r, r', e1, e2, e3⟩ := lp_rel (b := fun (o : wg_C × Int32 × Int32) => f_X8_unlikeShown_l14 NN (4 + p.toNatClampNeg) S9 d o.1 o.2.1 o.2.2) (c := fun (o : wg_M × Int32 × Int32) => f_X9_unlikeOn_l14 NN p d S9 (L.1 62 p.toNatClampNeg) o.1 o.2.1 o.2.2) (fun x y => x.2 = y.2 ∧ (gsC C x.1 ∧ x.1 40 1 = C (4 + p.toNatClampNeg) 1 ∧ x.1 40 2 = C (4 + p.toNatClampNeg) 2) ∧ (∀ a k, ¬ (a = 62 ∧ k = p.toNatClampNeg) → y.1.1 a k = M.1 a k) ∧ rg 2048 x.2.1 = true ∧ ∃ k, k ≤ 19 ∧ x.2.2 = Int32.ofNat k) (fun x => 19 - x.2.2.toInt.toNat) (fun r q => r.2 = q.2 ∧ gsC C r.1 ∧ rg 2048 r.2.1 = true ∧ ∀ a k, ¬ (a = 62 ∧ k = p.toNatClampNeg) → q.1.1 a k = M.1 a k) (by
    rintro ⟨C', v, w⟩ ⟨M', v', w'⟩ ⟨e1, ⟨c0, c1, c2⟩, c3, c4, k, hk, e2⟩
    simp only [Prod.mk.injEq] at e1 e2 c0 c1 c2 c3 c4
    obtain ⟨rfl, rfl⟩ := e1
    subst e2
    have g8 : (18 : Int32) < Int32.ofNat k ↔ ¬ k < 19 := by
      rw [i_lt, oN_t (by omega), show (18 : Int32).toInt = 18 from rfl]
      omega
    have g9 : (19 : Int32) ≤ Int32.ofNat k ↔ ¬ k < 19 := by
      rw [i_le, oN_t (by omega), show (19 : Int32).toInt = 19 from rfl]
      omega
    simp only [f_X8_unlikeShown_l14, f_X9_unlikeOn_l14, g8, g9, lt_eq, ck_pos (i1.in8 i3)]
    by_cases g : k < 19
    · left
      have hμ : 19 - (Int32.ofNat k + 1).toInt.toNat < 19 - (Int32.ofNat k).toInt.toNat := by
        rw [oN_s, oN_t (by omega), oN_t (by omega)]
        omega
      by_cases z : S9 >>> (Int32.ofNat k &&& 31) &&& 1 = 1
      · have q1 : gsC C (wg_up C' 40 3 (Int32.ofNat k - 9)) := fun a j q => by rw [up_r _ _ _ _ q]; exact c0 a j q
        have y1 : wg_up C' 40 3 (Int32.ofNat k - 9) 40 1 = C (4 + p.toNatClampNeg) 1 := (up_k C' _ (show 1 ≠ 3 by decide)).trans c1
        have y2 : wg_up C' 40 3 (Int32.ofNat k - 9) 40 2 = C (4 + p.toNatClampNeg) 2 := (up_k C' _ (show 2 ≠ 3 by decide)).trans c2
        have q3 : ∀ a j, ¬ (a = 62 ∧ j = p.toNatClampNeg) → (wg_sM M' 62 p.toNatClampNeg (Int32.ofNat k - 9)).1 a j = M.1 a j := fun a j q => by
          by_cases z : a = 62
          · rw [sM_k _ _ (by omega)]; exact c3 a j q
          · rw [sM_r _ _ _ _ z]; exact c3 a j q
        have q2 : gsM p.toNatClampNeg M (wg_sM M' 62 p.toNatClampNeg (Int32.ofNat k - 9)) := fun a j q => q3 a j (by omega)
        obtain ⟨t1, t2, t3⟩ := gs_shows (D := wg_up C' 40 3 (Int32.ofNat k - 9)) i1 i3 q1 q2 hk6 (sft k g) (by rw [sM_r _ _ _ _ (by decide), c3 _ _ (by omega)]; exact hP.1) (sM_s _ _ _ _) (by rw [up_k _ _ (by decide)]; exact c1) (by rw [up_k _ _ (by decide)]; exact c2) (up_s _ _ _ _)
        have t4 := t3 d
        simp only [g, z, not_true, if_false, if_true, t1, t2, bd_eq]
        refine ⟨_, _, rfl, rfl, ⟨rfl, ⟨q1, y1, y2⟩, q3, ?_, k + 1, by omega, oN_s k⟩, hμ⟩
        obtain ⟨a, ha, rfl⟩ := rg_oN c4
        have t5 : rg 11 (showK (C 2) (C (4 + p.toNatClampNeg) 1) (C (4 + p.toNatClampNeg) 2) (Int32.ofNat k - 9) d + 1) = true := by
          rw [rg_iff, i_add, Int32.toInt_one]
          omega
        obtain ⟨j, hj, ej⟩ := rg_oN t5
        rw [ej]
        exact or_2048 a ha j hj
      · simp only [g, z, not_true, if_false]
        exact ⟨_, _, rfl, rfl, ⟨rfl, ⟨c0, c1, c2⟩, c3, c4, k + 1, by omega, oN_s k⟩, hμ⟩
    · right
      simp only [g, not_false_eq_true, if_true]
      exact ⟨_, _, rfl, rfl, rfl, c0, c4, c3⟩) NN NN ((fun a j => if a = 40 ∧ 1 ≤ j ∧ j ≤ 5 then D (4 + p.toNatClampNeg) j else D a j), 0, 0) (L, 0, 0) ⟨rfl, ⟨fun a j q => (if_neg (fun e => q e.1)).trans (hC a j q), show D (4 + p.toNatClampNeg) 1 = C (4 + p.toNatClampNeg) 1 from hC _ _ (by omega), show D (4 + p.toNatClampNeg) 2 = C (4 + p.toNatClampNeg) 2 from hC _ _ (by omega)⟩, fun a j q => hL a j, show rg 2048 0 = true by decide, 0, by omega, rfl⟩ (by have := NN_big; show 19 - _ < NN; omega) (by have := NN_big; show 19 - _ < NN; omega)
  rw [e1, e2]
  obtain ⟨E, v, w⟩ := r
  obtain ⟨K, v', w'⟩ := r'
  obtain ⟨f1, f2, f4, f3⟩ := e3
  simp only [Prod.mk.injEq] at f1 f2 f3 f4
  obtain ⟨rfl, rfl⟩ := f1
  simp only [bd3_eq, s8_pop, s9_pop f4, bd_eq, ck_pos (i1.in8 i3)]
  refine ⟨_, _, _, rfl, rfl, f2, fun a j => ?_⟩
  by_cases z : a = 62 ∧ j = p.toNatClampNeg
  · obtain ⟨rfl, rfl⟩ := z
    rw [sM_s]
    exact hL _ _
  · by_cases y : a = 62
    · rw [sM_k _ _ (by omega)]; exact f3 a j z
    · rw [sM_r _ _ _ _ y]; exact f3 a j z
theorem h_lookNext : H_lookNext wInv := by
  intro S C M h hw s p d w
  obtain ⟨hs, np, nt, h1, h2, h3, h4, h5, h6, h7⟩ := id h
  unfold f_X8_lookNext f_X9_lookNext
  rw [show f_X8_refusalOfLook C s p d w 1 = _ from s8_look h1 s p d w 1 (by decide), s9_look h1 h5, show f_X9_in w.toInt64 0 1 = some (bI (rg 2 w = true)) from s_inr w 1 2 rfl]
  simp only [bd_eq, if_bI]
  by_cases g1 : rg 2 w = true
  · simp only [g1, if_true]
    by_cases g2 : lookR np C s p d = 0
    · obtain ⟨m, hm⟩ := look0 h1 h5 g2
      obtain ⟨i1, i2, i3, i4, i5, i6, i7⟩ := id hm
      obtain ⟨S9, D, L, v1, v2, v3, v4⟩ := s_shifts hm d
      simp only [g2, if_true, ck_pos (inb_of i2 (Nat.le_refl _)), ck_pos (i1.in8 i3), v1, v2, bd2_eq]
      obtain ⟨r, r', e1, e2, e3⟩ := lp_rel (b := fun (o : wg_C × Int32 × Int32 × Int32) => f_X8_lookNext_l55 NN w (4 + p.toNatClampNeg) S9 o.1 o.2.1 o.2.2.1 o.2.2.2) (c := fun (o : wg_M × Int32 × Int32 × Int32) => f_X9_lookNext_l49 NN p w S9 o.1 o.2.1 o.2.2.1 o.2.2.2) (fun x y => x.2 = y.2 ∧ gsC C x.1 ∧ (∀ a k, y.1.1 a k = M.1 a k) ∧ ∃ k, k ≤ 32 ∧ x.2.2.2 = Int32.ofNat k) (fun x => 32 - x.2.2.2.toInt.toNat) (fun r q => r.2 = q.2 ∧ gsC C r.1 ∧ ∀ a k, q.1.1 a k = M.1 a k) (by
        rintro ⟨C', b, v, x⟩ ⟨M', b', v', x'⟩ ⟨e1, c0, c3, k, hk, e2⟩
        simp only [Prod.mk.injEq] at e1 e2 c0 c3
        obtain ⟨rfl, rfl, rfl⟩ := e1
        subst e2
        simp only [f_X8_lookNext_l55, f_X9_lookNext_l49, show (32 : Int32) = Int32.ofNat 32 from rfl, oN_le (show k < 2147483648 by omega) (show 32 < 2147483648 by omega)]
        by_cases g : 32 ≤ k
        · right
          simp only [g, if_true]
          exact ⟨_, _, rfl, rfl, rfl, c0, c3⟩
        · left
          have hμ : 32 - (Int32.ofNat k + 1).toInt.toNat < 32 - (Int32.ofNat k).toInt.toNat := by
            rw [oN_s, oN_t (by omega), oN_t (by omega)]
            omega
          obtain ⟨u, E, K, u1, u2, u3, u4⟩ := s_unlike i1 i3 c0 c3 S9 (Int32.ofNat k)
          simp only [g, if_false, u1, u2, bd2_eq, lt_eq]
          by_cases z : u ≤ v
          · rw [if_pos z, if_pos z]
            exact ⟨_, _, rfl, rfl, ⟨rfl, u3, u4, k + 1, by omega, oN_s k⟩, hμ⟩
          · rw [if_neg z, if_neg z]
            exact ⟨_, _, rfl, rfl, ⟨rfl, u3, u4, k + 1, by omega, oN_s k⟩, hμ⟩) NN NN (D, 0, 0, 0) (L, 0, 0, 0) ⟨rfl, v3, v4, 0, by omega, rfl⟩ (by have := NN_big; show 32 - _ < NN; omega) (by have := NN_big; show 32 - _ < NN; omega)
      rw [e1, e2]
      obtain ⟨E, b, v, x⟩ := r
      obtain ⟨K, b', v', x'⟩ := r'
      obtain ⟨f1, f2, f3⟩ := e3
      simp only [Prod.mk.injEq] at f1 f2 f3
      obtain ⟨rfl, rfl, rfl⟩ := f1
      show ∃ r C1 M1, (if w = 0 then some (b, E) else some (v, E)) = some (r, C1) ∧ (if w = 0 then some (b, K) else some (v, K)) = some (r, M1) ∧ wInv S C1 M1
      by_cases z : w = 0
      · rw [if_pos z, if_pos z]
        exact ⟨_, _, _, rfl, rfl, h.same f2 f3⟩
      · rw [if_neg z, if_neg z]
        exact ⟨_, _, _, rfl, rfl, h.same f2 f3⟩
    · simp only [g2, if_false]
      exact ⟨_, _, _, rfl, rfl, h⟩
  · simp only [g1]
    exact ⟨_, _, _, rfl, rfl, h⟩
