section
variable {f : Nat → Int32} {n m b : Nat} {hs : Nat → Nat} {T V Pl : Nat → Int32}
def rdG (C D : wg_C) : Prop := ∀ a k, a ≠ 28 → a ≠ 29 → a ≠ 30 → D a k = C a k
theorem rdG.rfl (C : wg_C) : rdG C C := fun _ _ _ _ _ => by trivial
theorem rdG.tr {C D E : wg_C} (h : rdG C D) (k : rdG D E) : rdG C E := fun a i q q' q'' => (k a i q q' q'').trans (h a i q q' q'')
theorem rdF.g {C D : wg_C} (h : rdF C D) : rdG C D := fun a i q q' _ => h a i q q'
theorem rdG.up {C D : wg_C} (h : rdG C D) (k : Nat) (v : Int32) : rdG C (wg_up D 30 k v) := fun x i q q' q'' => by
  rw [up_r _ _ _ _ q'']
  exact h x i q q' q''
theorem BsC.rg {m : Nat} {C D : wg_C} (h : BsC T V Pl m C) (k : rdG C D) : BsC T V Pl m D := by
  obtain ⟨h1, h2, h3, h4⟩ := h
  refine ⟨?_, ?_, ?_, by rw [k _ _ (by decide) (by decide) (by decide)]; exact h4⟩
  · rw [← h1]; funext i; exact k _ _ (by decide) (by decide) (by decide)
  · rw [← h2]; funext i; exact k _ _ (by decide) (by decide) (by decide)
  · rw [← h3]; funext i; exact k _ _ (by decide) (by decide) (by decide)
theorem CK.u30 {C : wg_C} {k len : Nat} (h : CK T m C k len) (i : Nat) (v : Int32) : CK T m (wg_up C 30 i v) k len := by
  obtain ⟨h1, h2, h3, h4, h5, h6⟩ := h
  refine ⟨?_, ?_, ?_, ?_, h5, h6⟩
  · rw [up_r _ _ _ _ (by decide)]; exact h1
  · rw [up_r _ _ _ _ (by decide)]; exact h2
  · rw [up_r _ _ _ _ (by decide)]; exact h3
  · rw [up_r _ _ _ _ (by decide)]; exact h4
theorem BDs.u30 {C : wg_C} {L : wg_M} (h : BDs m Pl C L) (i : Nat) (v : Int32) : BDs m Pl (wg_up C 30 i v) L := by
  obtain ⟨j, h1, ⟨h2, h2'⟩, h3, len, h4, h5⟩ := h
  refine ⟨j, h1, ⟨?_, ?_⟩, h3, len, h4, ?_⟩
  · rw [up_r _ _ _ _ (by decide)]; exact h2
  · rw [up_r _ _ _ _ (by decide)]; exact h2'
  · rw [up_r _ _ _ _ (by decide)]; exact h5
theorem bI_nz {c : Prop} [Decidable c] (h : c) : ¬ bI c = 0 := (bI_ne0 c).mpr h
/-- a part of a text -/
theorem simPart (hT : Toks f n m hs T V Pl) {pt : Nat} (hp : pt < 3) {key : Int32} (k1 : key ≠ -1) (k2 : key ≠ -2) {C : wg_C} {L : wg_M} {k len : Nat} (hb : BsC T V Pl m C) (ht : TxtL f n b L) (hc : CK T m C k len) (hr : RK f n hs T V Pl L k 0) : ∃ C' v L', f_X2_readPart NN C key (Int32.ofNat pt) = some C' ∧ f_X9_part NN L (bI (T k = key)) = some (v, L') ∧ rdG C C' ∧ rF L L' ∧ (∀ q, q ≠ pt → C' 30 q = C 30 q) ∧ ((∃ k' len', CK T m C' k' len' ∧ RK f n hs T V Pl L' k' 0 ∧ len ≤ len' ∧ (∀ i, i < len → C' 29 i = C 29 i) ∧ Ev (fun i => L.1 55 (15 + i)) (C' 29) len len' v ∧ C' 30 pt = Int32.ofNat len') ∨ BDs m Pl C' L') := by
  have hm := hT.1.2
  have hpi : inb (Int32.ofNat pt) 3 := oN_inb hp (by decide)
  have hpc : (Int32.ofNat pt).toNatClampNeg = pt := oN_cl (by omega)
  unfold f_X2_readPart f_X2_expect f_X9_part
  simp only [hpc, lt_eq]
  rw [hc.2.2.1]
  by_cases g : T k = key
  · have hk1 := hT.lt hc.2.2.2.2.1 (by rw [g]; exact k1) (by rw [g]; exact k2)
    rw [if_pos g, if_neg (bI_nz g)]
    obtain ⟨D, d1, d2, d3, d4⟩ := s8_adv hb hm hc hk1
    obtain ⟨K, q1, q2, q3⟩ := s9_adv ht hT hr hk1
    unfold f_X9_part_j8
    rw [d1, bd_eq, bd_eq, if_pos hr.1, q1, bd_eq]
    unfold f_X9_part_j19
    rw [if_pos q3.1]
    obtain ⟨E, v, F, u1, u2, u3, u4, u5⟩ := simE hT D K (k + 1) len (hb.rd d2) (q2.txt ht) d3 q3
    have u1' : f_X2_readOr_e NN D (0 : Int32) = some E := u1
    rw [u1', bd_eq, u2, bd2_eq]
    have fr8 : rdF C E := d2.tr u3
    have fr9 : rF L F := (rF.nx q2).tr u4
    unfold f_X9_part_j34
    rcases u5 with ⟨k', len', v1, v2, v3, v4, v5, v6, v7⟩ | hB
    · rw [v2.sign (show Sgn 59 by unfold Sgn; decide), bd_eq, v1.2.2.1]
      by_cases g2 : T k' = 59
      · have hk2 := hT.lt v1.2.2.2.2.1 (by rw [g2]; decide) (by rw [g2]; decide)
        rw [if_pos g2, if_neg (bI_nz g2)]
        obtain ⟨G, w1, w2, w3, w4⟩ := s8_adv (hb.rd fr8) hm v1 hk2
        obtain ⟨H, x1, x2, x3⟩ := s9_adv (fr9.txt ht) hT v2 hk2
        unfold f_X9_part_j48
        rw [w1, bd_eq, bd_eq, ck_pos hpi, if_pos v2.1, x1, bd_eq]
        have e4 : wg_up G 30 pt (G 28 3) 29 = E 29 := by
          rw [← w4]
          funext i
          exact up_r _ _ _ _ (by decide)
        refine ⟨_, v, H, rfl, rfl, ((fr8.tr w2).g).up _ _, fr9.tr (rF.nx x2), fun q hq => ?_, Or.inl ⟨k' + 1, len', w3.u30 _ _, x3, v4, fun i hi => ?_, ?_, ?_⟩⟩
        · rw [up_k _ _ hq]
          exact (fr8.tr w2) 30 q (by decide) (by decide)
        · rw [e4, v6 i hi, d4]
        · rw [e4]
          exact v7.env (fun w hw => (rF.nx q2) _ _ (by omega))
        · rw [up_s]
          exact w3.2.2.2.1
      · rw [if_neg g2, if_pos ((bI_eq0 _).mpr g2)]
        obtain ⟨G, H, w1, w2, w3, w4, w5, w6⟩ := jFail hT (hb.rd fr8) v1 v2
        unfold f_X9_part_j48
        have hbad : ¬ H.1 55 28 = 0 := by
          obtain ⟨j, _, _, z, _⟩ := w5
          rw [z.1]; decide
        rw [w1, bd_eq, bd_eq, ck_pos hpi, w2, bd_eq, if_neg hbad]
        refine ⟨_, v, H, rfl, rfl, ((fr8.tr w3).g).up _ _, fr9.tr w4, fun q hq => ?_, Or.inr (w5.u30 _ _)⟩
        rw [up_k _ _ hq]
        exact (fr8.tr w3) 30 q (by decide) (by decide)
    · obtain ⟨j, v1, v2, v3, len', v4, v5⟩ := id hB
      rw [s9_badSign v3.1, bd_eq, if_pos rfl, s9_badFail v3.1, bd_eq, v2.2, if_neg (by decide), s8_failB (by rw [v2.1]; exact hT.ne v1) v2.2, bd_eq, bd_eq, ck_pos hpi]
      unfold f_X9_part_j48
      rw [if_neg (by rw [v3.1]; decide)]
      refine ⟨_, v, F, rfl, rfl, (fr8.g).up _ _, fr9, fun q hq => ?_, Or.inr (hB.u30 _ _)⟩
      rw [up_k _ _ hq]
      exact fr8 30 q (by decide) (by decide)
  · rw [if_neg g, if_pos ((bI_eq0 _).mpr g)]
    obtain ⟨D, K, d1, d2, d3, d4, d5, d6⟩ := jFail hT hb hc hr
    obtain ⟨j, v1, v2, v3, len', v4, v5⟩ := id d5
    have hne : ¬ D 28 0 = -1 := by rw [v2.1]; exact hT.ne v1
    have hb0 : ¬ K.1 55 28 = 0 := by rw [v3.1]; decide
    rw [d1, bd_eq, bd_eq]
    unfold f_X2_readOr_e
    rw [b8_g hne v2.2 0 58, bd_eq, v2.2, if_neg (by decide), s8_failB hne v2.2, bd_eq, bd_eq, ck_pos hpi, d2, bd_eq]
    unfold f_X9_part_j8
    rw [if_neg hb0]
    unfold f_X9_part_j19
    rw [if_neg hb0]
    unfold f_X9_part_j34
    rw [s9_badSign v3.1, bd_eq, if_pos rfl, s9_badFail v3.1, bd_eq]
    unfold f_X9_part_j48
    rw [if_neg hb0]
    refine ⟨_, 0, K, rfl, rfl, (d3.g).up _ _, d4, fun q hq => ?_, Or.inr (d5.u30 _ _)⟩
    rw [up_k _ _ hq]
    exact d3 30 q (by decide) (by decide)
/-- a part behind a fault -/
theorem badPart (hT : Toks f n m hs T V Pl) {pt : Nat} (hp : pt < 3) {key : Int32} (k2 : key ≠ -2) {C : wg_C} {L : wg_M} (hB : BDs m Pl C L) : ∃ C', f_X2_readPart NN C key (Int32.ofNat pt) = some C' ∧ rdG C C' ∧ BDs m Pl C' L := by
  have hpi : inb (Int32.ofNat pt) 3 := oN_inb hp (by decide)
  obtain ⟨j, v1, v2, v3, len', v4, v5⟩ := id hB
  have hne : ¬ C 28 0 = -1 := by rw [v2.1]; exact hT.ne v1
  unfold f_X2_readPart f_X2_expect f_X2_readOr_e
  simp only [lt_eq]
  rw [v2.2, if_neg (fun z => k2 z.symm), s8_failB hne v2.2, bd_eq, bd_eq, b8_g hne v2.2 0 58, bd_eq, v2.2, if_neg (by decide), s8_failB hne v2.2, bd_eq, bd_eq, ck_pos hpi]
  exact ⟨_, rfl, (rdG.rfl C).up _ _, hB.u30 _ _⟩
/-- the three parts, one behind the other, of the reference -/
def stg9 (q : Nat) (L : wg_M) : Option (Int32 × wg_M) := if L.1 55 28 = 0 then bd (f_X9_isWord L (wbp (6 + q) 0) (wbp (6 + q) 1) (wbp (6 + q) 2) (wbp (6 + q) 3) (wbp (6 + q) 4) (wbp (6 + q) 5) (wbp (6 + q) 6) (wbp (6 + q) 7)) fun r => f_X9_part NN L r else some (0, L)
/-- behind q parts: e where the code of each ends, v what it says -/
def PSt (f : Nat → Int32) (n m : Nat) (hs : Nat → Nat) (T V Pl : Nat → Int32) (C0 : wg_C) (L0 : wg_M) (q : Nat) (e : Nat → Nat) (v : Nat → Int32) (C : wg_C) (L : wg_M) : Prop := rdG C0 C ∧ rF L0 L ∧ ((∃ k, CK T m C k (e q) ∧ RK f n hs T V Pl L k 0 ∧ e 0 = 0 ∧ ∀ i, i < q → C 30 i = Int32.ofNat (e (i + 1)) ∧ e (i + 1) ≤ e q ∧ Ev (fun j => L0.1 55 (15 + j)) (C 29) (e i) (e (i + 1)) (v i)) ∨ BDs m Pl C L)
theorem PSt.next (hT : Toks f n m hs T V Pl) {C0 : wg_C} {L0 : wg_M} (hb : BsC T V Pl m C0) (ht : TxtL f n b L0) {q : Nat} (hq : q < 3) {e : Nat → Nat} {v : Nat → Int32} {C : wg_C} {L : wg_M} (h : PSt f n m hs T V Pl C0 L0 q e v C L) : ∃ C' x L' e', f_X2_readPart NN C (Int32.ofNat (3 + q)) (Int32.ofNat q) = some C' ∧ stg9 q L = some (x, L') ∧ PSt f n m hs T V Pl C0 L0 (q + 1) e' (fun i => if i = q then x else v i) C' L' := by
  obtain ⟨f8, f9, hc⟩ := h
  have kne : ∀ x : Int32, x.toInt < 0 → Int32.ofNat (3 + q) ≠ x := fun x hx z => by
    rw [← z, oN_t (by omega)] at hx
    omega
  unfold stg9
  rcases hc with ⟨k, c1, c2, c3, c4⟩ | hB
  · have hw : f_X9_isWord L (wbp (6 + q) 0) (wbp (6 + q) 1) (wbp (6 + q) 2) (wbp (6 + q) 3) (wbp (6 + q) 4) (wbp (6 + q) 5) (wbp (6 + q) 6) (wbp (6 + q) 7) = some (bI (T k = Int32.ofNat (3 + q))) := c2.key (f9.txt ht) (j := 6 + q) (by omega) (by omega) (by
      unfold tkW
      rw [if_neg (by omega)]
      congr 1
      omega)
    rw [if_pos c2.1, hw, bd_eq]
    obtain ⟨C', x, L', u1, u2, u3, u4, u5, u6⟩ := simPart hT hq (kne (-1) (by decide)) (kne (-2) (by decide)) (hb.rg f8) (f9.txt ht) c1 c2
    rcases u6 with ⟨k', len', w1, w2, w3, w4, w5, w6⟩ | hB
    · refine ⟨C', x, L', fun i => if i = q + 1 then len' else e i, u1, u2, f8.tr u3, f9.tr u4, Or.inl ⟨k', ?_, w2, ?_, fun i hi => ?_⟩⟩
      · simp only [if_true]
        exact w1
      · show (if 0 = q + 1 then len' else e 0) = 0
        rw [if_neg (by omega)]
        exact c3
      · by_cases z : i = q
        · subst z
          simp only [if_true, if_neg (show ¬ i = i + 1 by omega)]
          exact ⟨w6, Nat.le_refl _, w5.env (fun j hj => f9 _ _ (by omega))⟩
        · obtain ⟨z1, z2, z3⟩ := c4 i (by omega)
          simp only [if_true, if_neg (show ¬ i = q + 1 by omega), if_neg (show ¬ i + 1 = q + 1 by omega), if_neg z]
          exact ⟨by rw [u5 i z]; exact z1, by omega, z3.congr (fun j hj => w4 j (by omega))⟩
    · exact ⟨C', x, L', e, u1, u2, f8.tr u3, f9.tr u4, Or.inr hB⟩
  · obtain ⟨j, v1, v2, v3, len', v4, v5⟩ := id hB
    rw [if_neg (by rw [v3.1]; decide)]
    obtain ⟨C', u1, u2, u3⟩ := badPart hT hq (kne (-2) (by decide)) hB
    exact ⟨C', 0, L, e, u1, rfl, f8.tr u2, f9, Or.inr u3⟩
end
