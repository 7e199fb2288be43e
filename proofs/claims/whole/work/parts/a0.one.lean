section
variable {f : Nat → Int32} {n m b : Nat} {hs : Nat → Nat} {T V Pl : Nat → Int32}
theorem RK.two {L : wg_M} {k o : Nat} (h : RK f n hs T V Pl L k o) (h2 : T k = 2) : ∃ j, j < 6 ∧ V k = Int32.ofNat j := by
  obtain ⟨h1, ⟨p, h2', h3, h4⟩, h5⟩ := h
  obtain ⟨-, -, -, c⟩ := h4
  rcases c with ⟨z, -⟩ | ⟨-, -, -, z⟩ | ⟨-, -, z, -⟩ | ⟨-, -, z, -⟩ | ⟨-, z⟩
  · rw [h2] at z; exact absurd z (by decide)
  · rcases z with ⟨j, hj, -, z, z2⟩ | ⟨z, -⟩
    · refine ⟨j, ?_, z2⟩
      rw [h2] at z
      unfold tkW at z
      by_cases g : j < 6
      · exact g
      · rw [if_neg g, i_eq, oN_t (by omega), show (2 : Int32).toInt = 2 from rfl] at z
        omega
    · rw [h2] at z; exact absurd z (by decide)
  · rw [h2] at z; exact absurd z (by decide)
  · have := sgn_ge z
    rw [h2] at this
    exact absurd this (by decide)
  · rw [h2] at z; exact absurd z (by decide)
/-- which kind the token is -/
theorem RK.k1 {L : wg_M} {k o : Nat} (h : RK f n hs T V Pl L k o) (h2 : T k = 2) : L.1 55 24 = 1 := by
  obtain ⟨h1, ⟨p, h2', h3, h4⟩, h5⟩ := h
  obtain ⟨-, -, -, c⟩ := h4
  rcases c with ⟨z, -⟩ | ⟨z, -⟩ | ⟨-, -, z, -⟩ | ⟨-, -, z, -⟩ | ⟨-, z⟩
  · rw [h2] at z; exact absurd z (by decide)
  · exact z
  · rw [h2] at z; exact absurd z (by decide)
  · have := sgn_ge z
    rw [h2] at this
    exact absurd this (by decide)
  · rw [h2] at z; exact absurd z (by decide)
theorem RK.k2 {L : wg_M} {k o : Nat} (h : RK f n hs T V Pl L k o) : (T k = 1 ∧ L.1 55 24 = 2 ∧ (L.2 55).toInt32 = V k) ∨ (¬ T k = 1 ∧ ¬ L.1 55 24 = 2) := by
  obtain ⟨h1, ⟨p, h2', h3, h4⟩, h5⟩ := h
  obtain ⟨-, -, -, c⟩ := h4
  rcases c with ⟨z, k⟩ | ⟨k, -, -, z⟩ | ⟨k, -, z, z2⟩ | ⟨k, -, z, -⟩ | ⟨k, z⟩
  · exact Or.inr ⟨by rw [z]; decide, by rw [k]; decide⟩
  · refine Or.inr ⟨?_, by rw [k]; decide⟩
    rcases z with ⟨j, hj, -, z, -⟩ | ⟨z, -⟩
    · have := tkW_b j hj
      intro y
      rw [← z, y, Int32.toInt_one] at this
      omega
    · rw [z]; decide
  · exact Or.inl ⟨z, k, z2⟩
  · refine Or.inr ⟨fun y => ?_, by rw [k]; decide⟩
    have := sgn_ge z
    rw [y] at this
    exact absurd this (by decide)
  · exact Or.inr ⟨by rw [z]; decide, by rw [k]; decide⟩
theorem s9_name {L : wg_M} {k o : Nat} (h : RK f n hs T V Pl L k o) (ht : TxtL f n b L) : (∃ j, j < 6 ∧ T k = 2 ∧ V k = Int32.ofNat j ∧ f_X9_name L = some (L.1 55 (15 + j), L)) ∨ (¬ T k = 2 ∧ f_X9_name L = bd (f_X9_fail L) fun M20 => some (0, M20)) := by
  have w0 : f_X9_isWord L 100 97 121 0 0 0 0 0 = some (bI (T k = 2 ∧ V k = Int32.ofNat 0)) := (h.word ht (j := 0) (by decide)).trans (by congr 1; exact bI_congr ⟨fun z => ⟨z.1, z.2 (by decide)⟩, fun z => ⟨z.1, fun _ => z.2⟩⟩)
  have w1 : f_X9_isWord L 115 104 105 102 116 0 0 0 = some (bI (T k = 2 ∧ V k = Int32.ofNat 1)) := (h.word ht (j := 1) (by decide)).trans (by congr 1; exact bI_congr ⟨fun z => ⟨z.1, z.2 (by decide)⟩, fun z => ⟨z.1, fun _ => z.2⟩⟩)
  have w2 : f_X9_isWord L 110 117 109 98 101 114 0 0 = some (bI (T k = 2 ∧ V k = Int32.ofNat 2)) := (h.word ht (j := 2) (by decide)).trans (by congr 1; exact bI_congr ⟨fun z => ⟨z.1, z.2 (by decide)⟩, fun z => ⟨z.1, fun _ => z.2⟩⟩)
  have w3 : f_X9_isWord L 119 101 97 116 104 101 114 0 = some (bI (T k = 2 ∧ V k = Int32.ofNat 3)) := (h.word ht (j := 3) (by decide)).trans (by congr 1; exact bI_congr ⟨fun z => ⟨z.1, z.2 (by decide)⟩, fun z => ⟨z.1, fun _ => z.2⟩⟩)
  have w4 : f_X9_isWord L 119 105 110 100 111 119 0 0 = some (bI (T k = 2 ∧ V k = Int32.ofNat 4)) := (h.word ht (j := 4) (by decide)).trans (by congr 1; exact bI_congr ⟨fun z => ⟨z.1, z.2 (by decide)⟩, fun z => ⟨z.1, fun _ => z.2⟩⟩)
  have w5 : f_X9_isWord L 114 111 111 109 0 0 0 0 = some (bI (T k = 2 ∧ V k = Int32.ofNat 5)) := (h.word ht (j := 5) (by decide)).trans (by congr 1; exact bI_congr ⟨fun z => ⟨z.1, z.2 (by decide)⟩, fun z => ⟨z.1, fun _ => z.2⟩⟩)
  unfold f_X9_name
  simp only [w0, w1, w2, w3, w4, w5, bd_eq, if_bI]
  by_cases g : T k = 2
  · left
    obtain ⟨j, hj, e⟩ := h.two g
    refine ⟨j, hj, g, e, ?_⟩
    have ne : ∀ i, i < 6 → i ≠ j → ¬ (T k = 2 ∧ V k = Int32.ofNat i) := fun i hi hij z => by
      have := z.2
      rw [e, i_eq, oN_t (by omega), oN_t (by omega)] at this
      omega
    have hj6 : j = 0 ∨ j = 1 ∨ j = 2 ∨ j = 3 ∨ j = 4 ∨ j = 5 := by omega
    rcases hj6 with rfl | rfl | rfl | rfl | rfl | rfl
    · rw [if_pos ⟨g, e⟩]
    · rw [if_neg (ne 0 (by omega) (by omega)), if_pos ⟨g, e⟩]
    · rw [if_neg (ne 0 (by omega) (by omega)), if_neg (ne 1 (by omega) (by omega)), if_pos ⟨g, e⟩]
    · rw [if_neg (ne 0 (by omega) (by omega)), if_neg (ne 1 (by omega) (by omega)), if_neg (ne 2 (by omega) (by omega)), if_pos ⟨g, e⟩]
    · rw [if_neg (ne 0 (by omega) (by omega)), if_neg (ne 1 (by omega) (by omega)), if_neg (ne 2 (by omega) (by omega)), if_neg (ne 3 (by omega) (by omega)), if_pos ⟨g, e⟩]
    · rw [if_neg (ne 0 (by omega) (by omega)), if_neg (ne 1 (by omega) (by omega)), if_neg (ne 2 (by omega) (by omega)), if_neg (ne 3 (by omega) (by omega)), if_neg (ne 4 (by omega) (by omega)), if_pos ⟨g, e⟩]
  · right
    refine ⟨g, ?_⟩
    rw [if_neg (fun z => g z.1), if_neg (fun z => g z.1), if_neg (fun z => g z.1), if_neg (fun z => g z.1), if_neg (fun z => g z.1), if_neg (fun z => g z.1)]
theorem simOne (hT : Toks f n m hs T V Pl) {o : Nat} (ho : o ≤ 5) {rc8 : Nat → wg_C → Int32 → Option wg_C} {rc9 : Nat → wg_M → Option (Int32 × wg_M)} (hM : o < 5 → Sim f n m b hs T V Pl (o + 1) (rc8 5) (rc9 0)) (hP : o < 5 → Sim f n m b hs T V Pl (o + 1) (rc8 0) (rc9 5)) : Sim f n m b hs T V Pl o (f_X2_readOne NN rc8) (f_X9_atom NN rc9) := by
  intro C L k len hb ht hc hr
  have hm := hT.1.2
  have hk := hc.2.2.2.2.1
  have hlk := hc.2.2.2.2.2
  have sg : f_X9_isSign L 45 = some (bI (T k = 45)) := hr.sign (by unfold Sgn; decide)
  have sp : f_X9_isSign L 40 = some (bI (T k = 40)) := hr.sign (by unfold Sgn; decide)
  have g5 : (5 : Int32) ≤ Int32.ofNat o ↔ 5 ≤ o := oN_le (show o < 2147483648 by omega) (show 5 < 2147483648 by omega)
  have g5' : L.1 55 27 = 5 ↔ 5 ≤ o := by
    rw [hr.2.2, i_eq, oN_t (by omega), show (5 : Int32).toInt = 5 from rfl]
    omega
  -- a number or a name
  have push : ∀ (oc v : Int32) (K : wg_M), ¬ T k = -1 → ¬ T k = -2 → (∀ st, stepO (fun i => L.1 55 (15 + i)) (V k * 16 + oc) st = some (v :: st)) → f_X9_next NN L = some K → ∃ C', f_X2_readOne_j30 NN rc8 C oc = some C' ∧ JOut f n m hs T V Pl C L k len o C' K v := fun oc v K q1 q2 hst hn => by
    have hk1 := hT.lt hk q1 q2
    obtain ⟨K', k1, k2, k3⟩ := s9_adv ht hT hr hk1
    rw [hn] at k1
    cases k1
    unfold f_X2_readOne_j30
    rw [hc.2.1, ck_pos (oN_inb (show k < 161 by omega) (by decide)), oN_cl (show k < 2147483648 by omega), hb.2.1]
    obtain ⟨D, d1, d2, d3, d4, d5⟩ := s8_emit0 hc (show len < 160 by omega) oc (V k)
    obtain ⟨E, e1, e2, e3, e4⟩ := s8_adv0 (hb.rd d2) hm d3 hk1 (by omega)
    rw [d1, bd_eq, e1, bd_eq]
    refine ⟨E, rfl, d2.tr e2, rF.nx k2, Or.inl ⟨k + 1, len + 1, e3, k3, by omega, by omega, by omega, fun q hq => by rw [e4, d5 q (by omega)], ?_⟩⟩
    exact Ev.push (fun st => by rw [e4, d4]; exact hst st)
  -- a fault
  have bad : ¬ T k = 1 → ¬ T k = 2 → ∃ v K, f_X9_atom_j123 NN rc9 L 0 = some (v, K) ∧ (∃ K', f_X9_fail L = some K' ∧ K = K') := fun q1 q2 => by
    obtain ⟨D, K, d1, d2, d3, d4, d5, d6⟩ := jFail hT hb hc hr
    unfold f_X9_atom_j123
    rw [if_pos hr.1]
    by_cases g : L.1 55 24 = 1
    · rw [if_pos g]
      rcases s9_name hr ht with ⟨j, _, z, _⟩ | ⟨_, z⟩
      · exact absurd z q2
      · have hB := d5
        obtain ⟨j, v1, v2, v3, -⟩ := hB
        rw [z, d2, bd_eq, bd2_eq, if_neg (by rw [v3.1]; decide)]
        exact ⟨0, K, rfl, K, d2 ▸ rfl, rfl⟩
    · rw [if_neg g, d2, bd_eq]
      exact ⟨0, K, rfl, K, rfl, rfl⟩
  unfold f_X2_readOne f_X9_atom
  rw [sg, bd_eq, if_bI, sp, bd_eq, if_bI, hc.2.2.1]
  by_cases t1 : T k = 1
  · rw [if_pos t1, if_neg (by rw [t1]; decide), if_neg (by rw [t1]; decide), if_pos hr.1]
    rcases hr.k2 with ⟨_, z1, z2⟩ | ⟨z, _⟩
    · rw [if_pos z1]
      simp only [lt_eq]
      have hk1 := hT.lt hk (by rw [t1]; decide) (by rw [t1]; decide)
      obtain ⟨K, k1, k2, k3⟩ := s9_adv ht hT hr hk1
      obtain ⟨C', c1, c2⟩ := push 0 (V k) K (by rw [t1]; decide) (by rw [t1]; decide) (fun st => st_num _ (hT.num hk t1) st) k1
      unfold f_X2_readOne_j16
      rw [hc.2.2.1, if_pos t1, c1, k1, bd_eq, z2]
      exact ⟨C', V k, K, rfl, rfl, c2⟩
    · exact absurd t1 z
  · rw [if_neg t1]
    have nk : ¬ L.1 55 24 = 2 := by
      rcases hr.k2 with ⟨z, _⟩ | ⟨_, z⟩
      · exact absurd z t1
      · exact z
    by_cases t2 : T k = 2
    · rw [if_pos t2, if_neg (by rw [t2]; decide), if_neg (by rw [t2]; decide), if_pos hr.1, if_neg nk]
      unfold f_X9_atom_j123 f_X2_readOne_j16
      rw [if_pos hr.1, if_pos (hr.k1 t2), hc.2.2.1, if_neg t1]
      rcases s9_name hr ht with ⟨j, hj, _, e, z⟩ | ⟨z, _⟩
      · have hk1 := hT.lt hk (by rw [t2]; decide) (by rw [t2]; decide)
        obtain ⟨K, k1, k2, k3⟩ := s9_adv ht hT hr hk1
        obtain ⟨C', c1, c2⟩ := push 1 (L.1 55 (15 + j)) K (by rw [t2]; decide) (by rw [t2]; decide) (fun st => by rw [e]; exact st_name _ hj st) k1
        rw [z, bd2_eq, if_pos hr.1, c1, k1, bd_eq]
        exact ⟨C', _, K, rfl, rfl, c2⟩
      · exact absurd t2 z
    · rw [if_neg t2]
      by_cases t3 : T k = 45
      · rw [if_pos t3, if_pos t3]
        unfold f_X9_opens
        by_cases g6 : 5 ≤ o
        · rw [if_pos (g5.mpr g6), if_pos (g5'.mpr g6)]
          obtain ⟨D, K, d1, d2, d3, d4, d5, d6⟩ := jFail hT hb hc hr
          unfold f_X2_readOne_j86
          rw [hc.2.2.1, if_neg (by rw [t3]; decide), d1, bd_eq, d2, bd_eq, bd2_eq, if_pos rfl]
          exact ⟨D, 0, K, rfl, rfl, d3, d4, Or.inr d5⟩
        · rw [if_neg (fun z => g6 (g5.mp z)), if_neg (fun z => g6 (g5'.mp z))]
          have hk1 := hT.lt hk (by rw [t3]; decide) (by rw [t3]; decide)
          obtain ⟨D, d1, d2, d3, d4⟩ := s8_adv hb hm hc hk1
          simp only [lt_eq, hr.2.2, oN_s]
          have r1 : rF L (wg_sM L 55 27 (Int32.ofNat (o + 1))) := (rF.rfl L).up _ (by decide)
          obtain ⟨K, k1, k2, k3⟩ := s9_adv (r1.txt ht) hT (hr.op (o + 1)) hk1
          rw [d1, k1, bd_eq, bd_eq, bd2_eq, if_neg (by decide)]
          have r2 := r1.tr (rF.nx k2)
          obtain ⟨E, r, F, u1, u2, u3, u4, u5⟩ := hM (by omega) D K (k + 1) len (hb.rd d2) (r2.txt ht) d3 k3
          rw [u1, u2, bd_eq, bd2_eq]
          have fr8 : rdF C E := d2.tr u3
          have fr9 : rF L F := r2.tr u4
          rcases u5 with ⟨k', len', v1, v2, v3, v4, v5, v6, v7⟩ | ⟨j, v1, v2, v3, len', v4, v5⟩
          · have l1 := v1.2.2.2.2.2
            have l2 := v1.2.2.2.2.1
            obtain ⟨H, w1, w2, w3, w4, w5⟩ := s8_emit v1 (show len' < 160 by omega) (show len' + 1 ≤ k' by omega) 2 0
            have eo : F.1 55 27 - 1 = Int32.ofNat o := by
              rw [v2.2.2, i_eq, i_sub, oN_t (by omega), oN_t (by omega), Int32.toInt_one]
              omega
            rw [w1, bd_eq, eo]
            have v7' : Ev (fun j => L.1 55 (15 + j)) (H 29) len len' r := (v7.congr (fun q hq => w5 q (by omega))).env (fun w hw => r2 _ _ (by omega))
            exact ⟨H, _, _, rfl, rfl, fr8.tr w2, fr9.up _ (by decide), Or.inl ⟨k', len' + 1, w3, v2.op o, by omega, by omega, by omega, fun q hq => by rw [w5 q (by omega), v6 q hq, d4], v7'.un (fun st => by rw [w4]; exact st_neg _ _ _)⟩⟩
          · obtain ⟨H, w1, w2, w3, len2, w4, w5⟩ := s8_emitB v2 v5 v4 2 0
            rw [w1, bd_eq]
            exact ⟨H, _, _, rfl, rfl, fr8.tr w2, fr9.up _ (by decide), Or.inr ⟨j, v1, w3, v3.op _, len2, w5, w4⟩⟩
      · rw [if_neg t3, if_neg t3]
        unfold f_X2_readOne_j86
        rw [hc.2.2.1]
        by_cases t4 : T k = 40
        · rw [if_pos t4, if_pos t4]
          unfold f_X9_opens
          by_cases g6 : 5 ≤ o
          · rw [if_pos (g5.mpr g6), if_pos (g5'.mpr g6)]
            obtain ⟨D, K, d1, d2, d3, d4, d5, d6⟩ := jFail hT hb hc hr
            rw [d1, bd_eq, d2, bd_eq, bd2_eq, if_pos rfl]
            exact ⟨D, 0, K, rfl, rfl, d3, d4, Or.inr d5⟩
          · rw [if_neg (fun z => g6 (g5.mp z)), if_neg (fun z => g6 (g5'.mp z))]
            have hk1 := hT.lt hk (by rw [t4]; decide) (by rw [t4]; decide)
            obtain ⟨D, d1, d2, d3, d4⟩ := s8_adv hb hm hc hk1
            simp only [lt_eq, hr.2.2, oN_s]
            have r1 : rF L (wg_sM L 55 27 (Int32.ofNat (o + 1))) := (rF.rfl L).up _ (by decide)
            obtain ⟨K, k1, k2, k3⟩ := s9_adv (r1.txt ht) hT (hr.op (o + 1)) hk1
            rw [d1, k1, bd_eq, bd_eq, bd2_eq, if_neg (by decide)]
            have r2 := r1.tr (rF.nx k2)
            obtain ⟨E, r, F, u1, u2, u3, u4, u5⟩ := hP (by omega) D K (k + 1) len (hb.rd d2) (r2.txt ht) d3 k3
            rw [u1, u2, bd_eq, bd2_eq]
            have fr8 : rdF C E := d2.tr u3
            have fr9 : rF L F := r2.tr u4
            unfold f_X2_expect f_X9_atom_j71
            simp only [lt_eq]
            rcases u5 with ⟨k', len', v1, v2, v3, v4, v5, v6, v7⟩ | ⟨j, v1, v2, v3, len', v4, v5⟩
            · have l1 := v1.2.2.2.2.2
              have l2 := v1.2.2.2.2.1
              have eo : F.1 55 27 - 1 = Int32.ofNat o := by
                rw [v2.2.2, i_eq, i_sub, oN_t (by omega), oN_t (by omega), Int32.toInt_one]
                omega
              rw [v2.sign (show Sgn 41 by unfold Sgn; decide), bd_eq, if_bI, v1.2.2.1]
              by_cases t5 : T k' = 41
              · rw [if_pos t5, if_pos t5, eo]
                have hk2 := hT.lt l2 (by rw [t5]; decide) (by rw [t5]; decide)
                obtain ⟨G, q1, q2, q3, q4⟩ := s8_adv (hb.rd fr8) hm v1 hk2
                have r3 : rF L (wg_sM F 55 27 (Int32.ofNat o)) := fr9.up _ (by decide)
                obtain ⟨H, w1, w2, w3⟩ := s9_adv (r3.txt ht) hT (v2.op o) hk2
                rw [q1, bd_eq, bd_eq, if_pos (by rw [sM_k _ _ (by decide)]; exact v2.1), w1, bd_eq]
                have v7' : Ev (fun j => L.1 55 (15 + j)) (G 29) len len' r := (v7.congr (fun q hq => by rw [q4])).env (fun w hw => r2 _ _ (by omega))
                exact ⟨G, r, H, rfl, rfl, fr8.tr q2, r3.tr (rF.nx w2), Or.inl ⟨k' + 1, len', q3, w3, by omega, by omega, by omega, fun q hq => by rw [q4, v6 q hq, d4], v7'⟩⟩
              · rw [if_neg t5, if_neg t5]
                obtain ⟨G, H, q1, q2, q3, q4, q5, q6⟩ := jFail hT (hb.rd fr8) v1 v2
                obtain ⟨j, w1, w2, w3, len2, w4, w5⟩ := q5
                rw [q1, bd_eq, q2, bd_eq, bd_eq, if_neg (by rw [sM_k _ _ (by decide), w3.1]; decide)]
                exact ⟨G, r, _, rfl, rfl, fr8.tr q3, (fr9.tr q4).up _ (by decide), Or.inr ⟨j, w1, w2, w3.op _, len2, w4, w5⟩⟩
            · rw [s9_badSign v3.1, bd_eq, if_pos rfl, s9_badFail v3.1, bd_eq, v2.2, if_neg (by decide), s8_failB (by rw [v2.1]; exact hT.ne v1) v2.2, bd_eq, bd_eq, if_neg (by rw [sM_k _ _ (by decide), v3.1]; decide)]
              exact ⟨E, r, _, rfl, rfl, fr8, fr9.up _ (by decide), Or.inr ⟨j, v1, v2, v3.op _, len', v4, v5⟩⟩
        · rw [if_neg t4, if_neg t4, if_pos hr.1, if_neg nk]
          obtain ⟨D, K, d1, d2, d3, d4, d5, d6⟩ := jFail hT hb hc hr
          obtain ⟨v, K', q1, K2, q2, q3⟩ := bad t1 t2
          rw [d2] at q2
          cases q2
          subst q3
          rw [d1, bd_eq, q1]
          exact ⟨D, v, _, rfl, rfl, d3, d4, Or.inr d5⟩
/-- all six, by how deep it goes -/
theorem simAll (hT : Toks f n m hs T V Pl) : ∀ (u o d e : Nat), o + u = 5 → Sim f n m b hs T V Pl o (f_X2g NN (6 * u + 1 + d) 5) (f_X9g NN (6 * u + 1 + e) 0) ∧ Sim f n m b hs T V Pl o (f_X2g NN (6 * u + 4 + d) 2) (f_X9g NN (6 * u + 4 + e) 3) ∧ Sim f n m b hs T V Pl o (f_X2g NN (6 * u + 6 + d) 0) (f_X9g NN (6 * u + 6 + e) 5)
  | u, o, d, e, hou => by
    have one : ∀ d e, Sim f n m b hs T V Pl o (f_X2g NN (6 * u + 1 + d) 5) (f_X9g NN (6 * u + 1 + e) 0) := fun d e => by
      rw [show 6 * u + 1 + d = (6 * u + d) + 1 by omega, show 6 * u + 1 + e = (6 * u + e) + 1 by omega]
      refine simOne hT (by omega) (rc8 := f_X2g NN (6 * u + d)) (rc9 := f_X9g NN (6 * u + e)) (fun h => ?_) (fun h => ?_)
      · obtain ⟨w, rfl⟩ : ∃ w, u = w + 1 := ⟨u - 1, by omega⟩
        have := (simAll hT w (o + 1) (d + 5) (e + 5) (by omega)).1
        rwa [show 6 * w + 1 + (d + 5) = 6 * (w + 1) + d by omega, show 6 * w + 1 + (e + 5) = 6 * (w + 1) + e by omega] at this
      · obtain ⟨w, rfl⟩ : ∃ w, u = w + 1 := ⟨u - 1, by omega⟩
        have := (simAll hT w (o + 1) d e (by omega)).2.2
        rwa [show 6 * w + 6 + d = 6 * (w + 1) + d by omega, show 6 * w + 6 + e = 6 * (w + 1) + e by omega] at this
    have term : ∀ d e, Sim f n m b hs T V Pl o (f_X2g NN (6 * u + 2 + d) 4) (f_X9g NN (6 * u + 2 + e) 1) := fun d e => by
      rw [show 6 * u + 2 + d = (6 * u + 1 + d) + 1 by omega, show 6 * u + 2 + e = (6 * u + 1 + e) + 1 by omega]
      exact simTerm hT (rc8 := f_X2g NN (6 * u + 1 + d)) (rc9 := f_X9g NN (6 * u + 1 + e)) (one d e)
    have sum : ∀ d e, Sim f n m b hs T V Pl o (f_X2g NN (6 * u + 3 + d) 3) (f_X9g NN (6 * u + 3 + e) 2) := fun d e => by
      rw [show 6 * u + 3 + d = (6 * u + 2 + d) + 1 by omega, show 6 * u + 3 + e = (6 * u + 2 + e) + 1 by omega]
      exact simSum hT (rc8 := f_X2g NN (6 * u + 2 + d)) (rc9 := f_X9g NN (6 * u + 2 + e)) (term d e)
    have nott : ∀ d e, Sim f n m b hs T V Pl o (f_X2g NN (6 * u + 4 + d) 2) (f_X9g NN (6 * u + 4 + e) 3) := fun d e => by
      rw [show 6 * u + 4 + d = (6 * u + 3 + d) + 1 by omega, show 6 * u + 4 + e = (6 * u + 3 + e) + 1 by omega]
      refine simNot hT (by omega) (rc8 := f_X2g NN (6 * u + 3 + d)) (rc9 := f_X9g NN (6 * u + 3 + e)) (sum d e) (fun h => ?_) (fun C D x n1 n2 n3 n4 hf h2 => ?_)
      · obtain ⟨w, rfl⟩ : ∃ w, u = w + 1 := ⟨u - 1, by omega⟩
        have := (simAll hT w (o + 1) (d + 5) (e + 5) (by omega)).2.1
        rwa [show 6 * w + 4 + (d + 5) = 6 * (w + 1) + 3 + d by omega, show 6 * w + 4 + (e + 5) = 6 * (w + 1) + 3 + e by omega] at this
      · rw [show 6 * u + 3 + d = ((6 * u + d) + 1 + 1) + 1 by omega]
        exact f8_sum h2 x (rc := f_X2g NN ((6 * u + d) + 1 + 1)) (f8_term h2 x (rc := f_X2g NN ((6 * u + d) + 1)) (f8_one n1 n2 n3 n4 hf x (rc := f_X2g NN (6 * u + d))))
    have andd : ∀ d e, Sim f n m b hs T V Pl o (f_X2g NN (6 * u + 5 + d) 1) (f_X9g NN (6 * u + 5 + e) 4) := fun d e => by
      rw [show 6 * u + 5 + d = (6 * u + 4 + d) + 1 by omega, show 6 * u + 5 + e = (6 * u + 4 + e) + 1 by omega]
      exact simAnd hT (rc8 := f_X2g NN (6 * u + 4 + d)) (rc9 := f_X9g NN (6 * u + 4 + e)) (nott d e)
    refine ⟨one d e, nott d e, ?_⟩
    rw [show 6 * u + 6 + d = (6 * u + 5 + d) + 1 by omega, show 6 * u + 6 + e = (6 * u + 5 + e) + 1 by omega]
    exact simOr hT (rc8 := f_X2g NN (6 * u + 5 + d)) (rc9 := f_X9g NN (6 * u + 5 + e)) (andd d e)
theorem simE (hT : Toks f n m hs T V Pl) : Sim f n m b hs T V Pl 0 (f_X2_readOr_e NN) (f_X9_either_e NN) := (simAll hT 5 0 28 28 (by decide)).2.2
end
