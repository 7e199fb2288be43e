section
variable {f : Nat → Int32} {n m b : Nat} {hs : Nat → Nat} {T V Pl : Nat → Int32}
theorem RK.sign {L : wg_M} {k o : Nat} (h : RK f n hs T V Pl L k o) {c : Int32} (hc : Sgn c) : f_X9_isSign L c = some (bI (T k = c)) := by
  obtain ⟨h1, ⟨p, h2, h3, h4⟩, h5⟩ := h
  exact s9_isSign h4 h1 hc
theorem RK.word {L : wg_M} {k o : Nat} (h : RK f n hs T V Pl L k o) (ht : TxtL f n b L) {j : Nat} (hj : j < 12) : f_X9_isWord L (wbp j 0) (wbp j 1) (wbp j 2) (wbp j 3) (wbp j 4) (wbp j 5) (wbp j 6) (wbp j 7) = some (bI (T k = tkW j ∧ (j < 6 → V k = Int32.ofNat j))) := by
  obtain ⟨h1, ⟨p, h2, h3, h4⟩, h5⟩ := h
  exact s9_isWord ht h4 h1 hj
theorem RK.key {L : wg_M} {k o : Nat} (h : RK f n hs T V Pl L k o) (ht : TxtL f n b L) {j : Nat} (hj : j < 12) (h6 : 6 ≤ j) {c : Int32} (hc : tkW j = c) : f_X9_isWord L (wbp j 0) (wbp j 1) (wbp j 2) (wbp j 3) (wbp j 4) (wbp j 5) (wbp j 6) (wbp j 7) = some (bI (T k = c)) := by
  rw [h.word ht hj, hc]
  congr 1
  exact bI_congr ⟨fun z => z.1, fun z => ⟨z, fun q => by omega⟩⟩
theorem RK.worth {L : wg_M} {k o : Nat} (h : RK f n hs T V Pl L k o) (hs' : Sgn (T k)) : L.2 55 = (T k).toInt64 := by
  obtain ⟨h1, ⟨p, h2, h3, h4⟩, h5⟩ := h
  have hg := sgn_ge hs'
  obtain ⟨-, -, -, c⟩ := h4
  rcases c with ⟨z, -⟩ | ⟨-, -, -, z⟩ | ⟨-, -, z, -⟩ | ⟨-, -, -, z⟩ | ⟨-, z⟩
  · rw [z] at hg; exact absurd hg (by decide)
  · rcases z with ⟨j, hj, -, z, -⟩ | ⟨z, -⟩
    · have := tkW_b j hj
      rw [z] at hg
      omega
    · rw [z] at hg; exact absurd hg (by decide)
  · rw [z] at hg; exact absurd hg (by decide)
  · exact z
  · rw [z] at hg; exact absurd hg (by decide)
theorem simTerm (hT : Toks f n m hs T V Pl) {o : Nat} {rc8 : Nat → wg_C → Int32 → Option wg_C} {rc9 : Nat → wg_M → Option (Int32 × wg_M)} (hS : Sim f n m b hs T V Pl o (rc8 5) (rc9 0)) : Sim f n m b hs T V Pl o (f_X2_readTerm NN rc8) (f_X9_term NN rc9) := by
  intro C L k len hb ht hc hr
  obtain ⟨D, x, K, u1, u2, u3⟩ := hS C L k len hb ht hc hr
  obtain ⟨C', i', L', v, v1, v2, v3⟩ := loopJ hT hS (isop := fun t => t = 42) (opc := fun _ => 6) (b8 := fun q => f_X2_readTerm_l8 NN rc8 (Int32.ofNat o) q.1 q.2) (b9 := fun q => f_X9_term_l5 NN rc9 q.1 q.2)
    (fun t h => by subst h; decide) (fun _ _ => by decide)
    (fun C i h => by simp only [f_X2_readTerm_l8, if_neg h, ite_self])
    (fun L x k hr ht h => by simp only [f_X9_term_l5, hr.sign (show Sgn 42 by unfold Sgn; decide), bd_eq, if_bI, if_neg h])
    (fun L x h => by simp only [f_X9_term_l5, s9_badSign h, bd_eq, if_true])
    (fun C i h hi => by simp only [f_X2_readTerm_l8, show (160 : Int32) = Int32.ofNat 160 from rfl, oN_le (show i < 2147483648 by omega) (show 160 < 2147483648 by omega), Nat.not_le.mpr hi, if_false, if_pos h, lt_eq])
    (fun L x k hr ht h => by
      simp only [f_X9_term_l5, hr.sign (show Sgn 42 by unfold Sgn; decide), bd_eq, if_bI, if_pos h, lt_eq]
      rfl)
    (by decide) hb ht u3
  refine ⟨C', v, L', ?_, ?_, v3⟩
  · unfold f_X2_readTerm
    rw [u1, bd_eq, v1]
    rfl
  · unfold f_X9_term
    rw [u2, bd2_eq, v2]
    rfl
theorem simSum (hT : Toks f n m hs T V Pl) {o : Nat} {rc8 : Nat → wg_C → Int32 → Option wg_C} {rc9 : Nat → wg_M → Option (Int32 × wg_M)} (hS : Sim f n m b hs T V Pl o (rc8 4) (rc9 1)) : Sim f n m b hs T V Pl o (f_X2_readSum NN rc8) (f_X9_added NN rc9) := by
  intro C L k len hb ht hc hr
  obtain ⟨D, x, K, u1, u2, u3⟩ := hS C L k len hb ht hc hr
  obtain ⟨C', i', L', v, v1, v2, v3⟩ := loopJ hT hS (isop := fun t => t = 43 ∨ t = 45) (opc := fun t => if t = 43 then 4 else 5) (b8 := fun q => f_X2_readSum_l8 NN rc8 (Int32.ofNat o) q.1 q.2) (b9 := fun q => f_X9_added_l5 NN rc9 q.1 q.2)
    (fun t h => by rcases h with rfl | rfl <;> decide) (fun t _ => by
      show 4 ≤ (if t = 43 then (4 : Int32) else 5).toInt ∧ (if t = 43 then (4 : Int32) else 5).toInt ≤ 10
      split <;> decide)
    (fun C i h => by
      simp only [not_or] at h
      simp only [f_X2_readSum_l8, if_neg h.1, if_neg h.2, ite_self])
    (fun L x k hr ht h => by
      simp only [not_or] at h
      simp only [f_X9_added_l5, hr.sign (show Sgn 43 by unfold Sgn; decide), hr.sign (show Sgn 45 by unfold Sgn; decide), bd_eq, if_bI, if_neg h.1, if_neg h.2])
    (fun L x h => by simp only [f_X9_added_l5, s9_badSign h, bd_eq, if_true])
    (fun C i h hi => by
      simp only [f_X2_readSum_l8, f_X2_readSum_j33l8, f_X2_readSum_j47l8, show (160 : Int32) = Int32.ofNat 160 from rfl, oN_le (show i < 2147483648 by omega) (show 160 < 2147483648 by omega), Nat.not_le.mpr hi, if_false, lt_eq]
      by_cases g : C 28 2 = 43
      · simp only [g, if_true]
      · have g2 := h.resolve_left g
        simp only [g2, show ¬ (45 : Int32) = 43 by decide, if_false, if_true])
    (fun L x k hr ht h => by
      have hw : L.2 55 = (T k).toInt64 := hr.worth (by unfold Sgn; rcases h with h | h <;> simp [h])
      simp only [f_X9_added_l5, f_X9_added_j23l5, f_X9_added_j39l5, hr.sign (show Sgn 43 by unfold Sgn; decide), hr.sign (show Sgn 45 by unfold Sgn; decide), bd_eq, if_bI, lt_eq, lg_eq, hw]
      by_cases g : T k = 43
      · have e : (T k).toInt64 = 43 := by rw [g]; rfl
        simp only [g, if_true, show (43 : Int32).toInt64 = 43 from rfl, show ¬ (1 : Int32) = 0 by decide, if_false]
        rfl
      · have g2 := h.resolve_left g
        simp only [g2, show ¬ (45 : Int32) = 43 by decide, if_false, if_true, show ¬ (45 : Int32).toInt64 = 43 by decide]
        rfl)
    (by decide) hb ht u3
  refine ⟨C', v, L', ?_, ?_, v3⟩
  · unfold f_X2_readSum
    rw [u1, bd_eq, v1]
    rfl
  · unfold f_X9_added
    rw [u2, bd2_eq, v2]
    rfl
theorem simAnd (hT : Toks f n m hs T V Pl) {o : Nat} {rc8 : Nat → wg_C → Int32 → Option wg_C} {rc9 : Nat → wg_M → Option (Int32 × wg_M)} (hS : Sim f n m b hs T V Pl o (rc8 2) (rc9 3)) : Sim f n m b hs T V Pl o (f_X2_readAnd NN rc8) (f_X9_both NN rc9) := by
  intro C L k len hb ht hc hr
  obtain ⟨D, x, K, u1, u2, u3⟩ := hS C L k len hb ht hc hr
  have wd : ∀ L k, RK f n hs T V Pl L k o → TxtL f n b L → f_X9_isWord L 97 110 100 0 0 0 0 0 = some (bI (T k = 7)) := fun L k hr ht => hr.key ht (j := 10) (by decide) (by decide) rfl
  obtain ⟨C', i', L', v, v1, v2, v3⟩ := loopJ hT hS (isop := fun t => t = 7) (opc := fun _ => 9) (b8 := fun q => f_X2_readAnd_l8 NN rc8 (Int32.ofNat o) q.1 q.2) (b9 := fun q => f_X9_both_l5 NN rc9 q.1 q.2)
    (fun t h => by subst h; decide) (fun _ _ => by decide)
    (fun C i h => by simp only [f_X2_readAnd_l8, if_neg h, ite_self])
    (fun L x k hr ht h => by simp only [f_X9_both_l5, wd L k hr ht, bd_eq, if_bI, if_neg h])
    (fun L x h => by simp only [f_X9_both_l5, s9_badWord h, bd_eq, if_true])
    (fun C i h hi => by simp only [f_X2_readAnd_l8, show (160 : Int32) = Int32.ofNat 160 from rfl, oN_le (show i < 2147483648 by omega) (show 160 < 2147483648 by omega), Nat.not_le.mpr hi, if_false, if_pos h, lt_eq])
    (fun L x k hr ht h => by
      simp only [f_X9_both_l5, wd L k hr ht, bd_eq, if_bI, if_pos h, lt_eq]
      congr 1
      funext M8
      congr 1
      funext r M11
      show _ = some (Sum.inl (M11, if x = 0 then (0 : Int32) else if r = 0 then 0 else 1))
      split
      · rfl
      · split <;> rfl)
    (by decide) hb ht u3
  refine ⟨C', v, L', ?_, ?_, v3⟩
  · unfold f_X2_readAnd
    rw [u1, bd_eq, v1]
    rfl
  · unfold f_X9_both
    rw [u2, bd2_eq, v2]
    rfl
theorem simOr (hT : Toks f n m hs T V Pl) {o : Nat} {rc8 : Nat → wg_C → Int32 → Option wg_C} {rc9 : Nat → wg_M → Option (Int32 × wg_M)} (hS : Sim f n m b hs T V Pl o (rc8 1) (rc9 4)) : Sim f n m b hs T V Pl o (f_X2_readOr NN rc8) (f_X9_either NN rc9) := by
  intro C L k len hb ht hc hr
  obtain ⟨D, x, K, u1, u2, u3⟩ := hS C L k len hb ht hc hr
  have wd : ∀ L k, RK f n hs T V Pl L k o → TxtL f n b L → f_X9_isWord L 111 114 0 0 0 0 0 0 = some (bI (T k = 6)) := fun L k hr ht => hr.key ht (j := 9) (by decide) (by decide) rfl
  obtain ⟨C', i', L', v, v1, v2, v3⟩ := loopJ hT hS (isop := fun t => t = 6) (opc := fun _ => 10) (b8 := fun q => f_X2_readOr_l8 NN rc8 (Int32.ofNat o) q.1 q.2) (b9 := fun q => f_X9_either_l5 NN rc9 q.1 q.2)
    (fun t h => by subst h; decide) (fun _ _ => by decide)
    (fun C i h => by simp only [f_X2_readOr_l8, if_neg h, ite_self])
    (fun L x k hr ht h => by simp only [f_X9_either_l5, wd L k hr ht, bd_eq, if_bI, if_neg h])
    (fun L x h => by simp only [f_X9_either_l5, s9_badWord h, bd_eq, if_true])
    (fun C i h hi => by simp only [f_X2_readOr_l8, show (160 : Int32) = Int32.ofNat 160 from rfl, oN_le (show i < 2147483648 by omega) (show 160 < 2147483648 by omega), Nat.not_le.mpr hi, if_false, if_pos h, lt_eq])
    (fun L x k hr ht h => by
      simp only [f_X9_either_l5, wd L k hr ht, bd_eq, if_bI, if_pos h, lt_eq]
      congr 1
      funext M8
      congr 1
      funext r M11
      show _ = some (Sum.inl (M11, if x = 0 then (if r = 0 then (0 : Int32) else 1) else 1))
      split
      · split <;> rfl
      · rfl)
    (by decide) hb ht u3
  refine ⟨C', v, L', ?_, ?_, v3⟩
  · unfold f_X2_readOr
    rw [u1, bd_eq, v1]
    rfl
  · unfold f_X9_either
    rw [u2, bd2_eq, v2]
    rfl
/-- a fault on both sides -/
theorem jFail (hT : Toks f n m hs T V Pl) {C : wg_C} {L : wg_M} {k len o : Nat} (hb : BsC T V Pl m C) (hc : CK T m C k len) (hr : RK f n hs T V Pl L k o) : ∃ D K, f_X2_fail C = some D ∧ f_X9_fail L = some K ∧ rdF C D ∧ rF L K ∧ BDs m Pl D K ∧ D 28 2 = -2 := by
  obtain ⟨D, d1, d2, d3, d4⟩ := s8_fail hb hT.1.2 hc
  obtain ⟨K, k1, k2, k3⟩ := s9_fail hr
  have := hc.2.2.2.2.1
  have := hc.2.2.2.2.2
  have := hT.1.2
  exact ⟨D, K, d1, k1, d2, k2, ⟨k, hc.2.2.2.2.1, d3, k3, len, by omega, d4⟩, d3.2⟩
theorem simNot (hT : Toks f n m hs T V Pl) {o : Nat} (ho : o ≤ 5) {rc8 : Nat → wg_C → Int32 → Option wg_C} {rc9 : Nat → wg_M → Option (Int32 × wg_M)} (hS : Sim f n m b hs T V Pl o (rc8 3) (rc9 2)) (hN : o < 5 → Sim f n m b hs T V Pl (o + 1) (rc8 2) (rc9 3)) (hF : ∀ C D x, ¬ C 28 2 = 1 → ¬ C 28 2 = 2 → ¬ C 28 2 = 45 → ¬ C 28 2 = 40 → f_X2_fail C = some D → D 28 2 = -2 → rc8 3 C x = some D) : Sim f n m b hs T V Pl o (f_X2_readNot NN rc8) (f_X9_not NN rc9) := by
  intro C L k len hb ht hc hr
  have hm := hT.1.2
  have wd : f_X9_isWord L 110 111 116 0 0 0 0 0 = some (bI (T k = 8)) := hr.key ht (j := 11) (by decide) (by decide) rfl
  unfold f_X2_readNot f_X9_not
  rw [wd, bd_eq, if_bI, hc.2.2.1]
  by_cases g : T k = 8
  · rw [if_pos g, if_pos g]
    unfold f_X9_opens
    have g5 : (5 : Int32) ≤ Int32.ofNat o ↔ 5 ≤ o := oN_le (show o < 2147483648 by omega) (show 5 < 2147483648 by omega)
    have g5' : L.1 55 27 = 5 ↔ 5 ≤ o := by
      rw [hr.2.2, i_eq, oN_t (by omega), show (5 : Int32).toInt = 5 from rfl]
      omega
    by_cases g6 : 5 ≤ o
    · rw [if_pos (g5.mpr g6), if_pos (g5'.mpr g6)]
      obtain ⟨D, K, d1, d2, d3, d4, d5, d6⟩ := jFail hT hb hc hr
      unfold f_X2_readNot_j34
      have e := hc.2.2.1
      rw [hF C D _ (by rw [e, g]; decide) (by rw [e, g]; decide) (by rw [e, g]; decide) (by rw [e, g]; decide) d1 d6, bd_eq, d6, if_neg (by decide), if_neg (by decide), d2]
      exact ⟨D, 0, K, rfl, rfl, d3, d4, Or.inr d5⟩
    · rw [if_neg (fun z => g6 (g5.mp z)), if_neg (fun z => g6 (g5'.mp z))]
      have hk1 := hT.lt hc.2.2.2.2.1 (by rw [g]; decide) (by rw [g]; decide)
      obtain ⟨D, d1, d2, d3, d4⟩ := s8_adv hb hm hc hk1
      simp only [lt_eq, hr.2.2, oN_s]
      have r1 : rF L (wg_sM L 55 27 (Int32.ofNat (o + 1))) := (rF.rfl L).up _ (by decide)
      obtain ⟨K, k1, k2, k3⟩ := s9_adv (r1.txt ht) hT (hr.op (o + 1)) hk1
      rw [d1, k1, bd_eq, bd_eq, bd2_eq, if_neg (by decide)]
      have r2 := r1.tr (rF.nx k2)
      obtain ⟨E, r, F, u1, u2, u3, u4, u5⟩ := hN (by omega) D K (k + 1) len (hb.rd d2) (r2.txt ht) d3 k3
      rw [u1, u2, bd_eq, bd2_eq]
      have fr8 : rdF C E := d2.tr u3
      have fr9 : rF L F := r2.tr u4
      have fin : ∀ (E' : wg_C) (W : wg_M) (v : Int32), f_X2_emit E 3 0 = some E' → W = wg_sM F 55 27 (F.1 55 27 - 1) → v = (if r = 0 then 1 else 0) → JOut f n m hs T V Pl C L k len o E' W v → ∃ C' v L', (bd (f_X2_emit E 3 0) fun C19 => some C19) = some C' ∧ (if r = 0 then some ((1 : Int32), wg_sM F 55 27 (F.1 55 27 - 1)) else some (0, wg_sM F 55 27 (F.1 55 27 - 1))) = some (v, L') ∧ JOut f n m hs T V Pl C L k len o C' L' v := fun E' W v h1 h2 h3 h4 => by
        rw [h1, bd_eq]
        refine ⟨E', v, W, rfl, ?_, h4⟩
        rw [h2, h3]
        split <;> rfl
      rcases u5 with ⟨k', len', v1, v2, v3, v4, v5, v6, v7⟩ | ⟨j, v1, v2, v3, len', v4, v5⟩
      · have l1 := v1.2.2.2.2.2
        have l2 := v1.2.2.2.2.1
        have l3 := hc.2.2.2.2.2
        obtain ⟨H, w1, w2, w3, w4, w5⟩ := s8_emit v1 (show len' < 160 by omega) (show len' + 1 ≤ k' by omega) 3 0
        have eo : F.1 55 27 - 1 = Int32.ofNat o := by
          rw [v2.2.2, i_eq, i_sub, oN_t (by omega), oN_t (by omega), Int32.toInt_one]
          omega
        refine fin H _ _ w1 rfl rfl ⟨fr8.tr w2, fr9.up _ (by decide), Or.inl ⟨k', len' + 1, w3, by rw [eo]; exact v2.op o, by omega, by omega, by omega, fun q hq => by rw [w5 q (by omega), v6 q hq, d4], ?_⟩⟩
        have v7' : Ev (fun j => L.1 55 (15 + j)) (H 29) len len' r := (v7.congr (fun q hq => w5 q (by omega))).env (fun w hw => r2 _ _ (by omega))
        exact v7'.un (fun st => by rw [w4]; exact st_not _ _ _)
      · obtain ⟨H, w1, w2, w3, len2, w4, w5⟩ := s8_emitB v2 v5 v4 3 0
        exact fin H _ _ w1 rfl rfl ⟨fr8.tr w2, fr9.up _ (by decide), Or.inr ⟨j, v1, w3, v3.op _, len2, w5, w4⟩⟩
  · rw [if_neg g, if_neg g]
    unfold f_X2_readNot_j34
    obtain ⟨D, x, K, u1, u2, u3, u4, u5⟩ := hS C L k len hb ht hc hr
    rw [u1, u2, bd_eq, bd2_eq]
    rcases u5 with ⟨k1, len1, v1, v2, v3, v4, v5, v6, v7⟩ | hB
    · rw [v2.sign (show Sgn 60 by unfold Sgn; decide), bd_eq, if_bI, v2.sign (show Sgn 61 by unfold Sgn; decide), bd_eq, if_bI, v1.2.2.1]
      -- a second sum, and what is said of both
      have cmp : (T k1 = 60 ∨ T k1 = 61) → ∃ C' v L', f_X2_readNot_j58 NN rc8 D (Int32.ofNat o) = some C' ∧ f_X9_not_j77 NN rc9 K x = some (v, L') ∧ JOut f n m hs T V Pl C L k len o C' L' v := fun hx => by
        have hw : K.2 55 = (T k1).toInt64 := v2.worth (by unfold Sgn; rcases hx with h | h <;> simp [h])
        have hk1 := hT.lt v1.2.2.2.2.1 (by rcases hx with h | h <;> (rw [h]; decide)) (by rcases hx with h | h <;> (rw [h]; decide))
        obtain ⟨E, d1, d2, d3, d4⟩ := s8_adv (hb.rd u3) hm v1 hk1
        obtain ⟨F, k1', k2, k3⟩ := s9_adv (u4.txt ht) hT v2 hk1
        have r2 : rF L F := u4.tr (rF.nx k2)
        obtain ⟨G, y, H, w1, w2, w3, w4, w5⟩ := hS E F (k1 + 1) len1 (hb.rd (u3.tr d2)) (r2.txt ht) d3 k3
        have fr8 : rdF C G := (u3.tr d2).tr w3
        have fr9 : rF L H := r2.tr w4
        have gen : ∀ oc : Int32, 4 ≤ oc.toInt ∧ oc.toInt ≤ 10 → ∃ C', f_X2_readNot_j74 NN rc8 D (Int32.ofNat o) oc = some C' ∧ JOut f n m hs T V Pl C L k len o C' H (jnV oc x y) := fun oc hoc => by
          unfold f_X2_readNot_j74
          rw [d1, bd_eq, w1, bd_eq]
          rcases w5 with ⟨k', len', z1, z2, z3, z4, z5, z6, z7⟩ | ⟨j, z1, z2, z3, len', z4, z5⟩
          · have l1 := z1.2.2.2.2.2
            have l2 := z1.2.2.2.2.1
            have l3 := v1.2.2.2.2.2
            obtain ⟨I, q1, q2, q3, q4, q5⟩ := s8_emit z1 (show len' < 160 by omega) (show len' + 1 ≤ k' by omega) oc 0
            rw [q1, bd_eq]
            refine ⟨I, rfl, fr8.tr q2, fr9, Or.inl ⟨k', len' + 1, q3, z2, by omega, by omega, by omega, fun q hq => by rw [q5 q (by omega), z6 q (by omega), d4, v6 q hq], ?_⟩⟩
            have a1 : Ev (fun j => L.1 55 (15 + j)) (I 29) len len1 x := v7.congr (fun q hq => by rw [q5 q (by omega), z6 q hq, d4])
            have a2 : Ev (fun j => L.1 55 (15 + j)) (I 29) len1 len' y := (z7.congr (fun q hq => q5 q (by omega))).env (fun w hw => r2 _ _ (by omega))
            exact a1.bin a2 (fun st => by rw [q4]; exact st_bin _ hoc _ _ st)
          · obtain ⟨I, q1, q2, q3, len2, q4, q5⟩ := s8_emitB z2 z5 z4 oc 0
            rw [q1, bd_eq]
            exact ⟨I, rfl, fr8.tr q2, fr9, Or.inr ⟨j, z1, q3, z3, len2, q5, q4⟩⟩
        unfold f_X2_readNot_j58 f_X9_not_j77 f_X9_not_j93
        rw [v1.2.2.1, hw, k1', bd_eq, w2, bd2_eq, bd_eq, w2, bd2_eq]
        simp only [lg_eq]
        by_cases g1 : T k1 = 60
        · obtain ⟨C', q1, q2⟩ := gen 7 (by decide)
          rw [if_pos g1, if_pos (show (T k1).toInt64 = 60 by rw [g1]; rfl), if_neg (by decide), q1]
          refine ⟨C', _, H, rfl, ?_, q2⟩
          show (if y ≤ x then _ else _) = some (if y ≤ x then (0 : Int32) else 1, H)
          split <;> rfl
        · have g2 := hx.resolve_left g1
          obtain ⟨C', q1, q2⟩ := gen 8 (by decide)
          rw [if_neg g1, if_neg (show ¬ (T k1).toInt64 = 60 by rw [g2]; decide), if_pos trivial, q1]
          refine ⟨C', _, H, rfl, ?_, q2⟩
          show (if x = y then _ else _) = some (if x = y then (1 : Int32) else 0, H)
          split <;> rfl
      by_cases g1 : T k1 = 60
      · rw [if_pos g1, if_pos g1]
        exact cmp (Or.inl g1)
      · rw [if_neg g1, if_neg g1]
        by_cases g2 : T k1 = 61
        · rw [if_pos g2, if_pos g2]
          exact cmp (Or.inr g2)
        · rw [if_neg g2, if_neg g2]
          exact ⟨D, x, K, rfl, rfl, u3, u4, Or.inl ⟨k1, len1, v1, v2, v3, v4, v5, v6, v7⟩⟩
    · obtain ⟨j, v1, v2, v3, len', v4, v5⟩ := id hB
      rw [s9_badSign v3.1, s9_badSign v3.1, bd_eq, bd_eq, if_pos rfl, if_pos rfl, v2.2, if_neg (by decide), if_neg (by decide)]
      exact ⟨D, x, K, rfl, rfl, u3, u4, Or.inr hB⟩
end
