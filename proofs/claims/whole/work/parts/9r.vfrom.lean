/-- ways to give panes that one may take -/
def LfA (np : Nat) (av : Nat → Prop) : Nat → Nat → Nat → Nat → Nat → Prop
  | 0, t, dg, t', dg' => t' = t ∧ dg' = dg
  | l + 1, t, dg, t', dg' => ∃ p, p < np ∧ av p ∧ bt t p = false ∧ LfA np av l (t + 2 ^ p) (10 * dg + p + 1) t' dg'
theorem LfA.dg {np : Nat} (h8 : np ≤ 8) {av : Nat → Prop} : ∀ l t dg t' dg', LfA np av l t dg t' dg' → dg * 10 ^ l ≤ dg' ∧ dg' < (dg + 1) * 10 ^ l
  | 0, t, dg, t', dg', h => by
    obtain ⟨_, rfl⟩ := h
    rw [Nat.pow_zero]
    omega
  | l + 1, t, dg, t', dg', h => by
    obtain ⟨p, hp, _, _, h⟩ := h
    have := LfA.dg h8 l _ _ _ _ h
    rw [Nat.pow_succ, Nat.mul_comm (10 ^ l) 10, ← Nat.mul_assoc, ← Nat.mul_assoc]
    have h1 : dg * 10 * 10 ^ l ≤ (10 * dg + p + 1) * 10 ^ l := Nat.mul_le_mul_right _ (by omega)
    have h2 : (10 * dg + p + 1 + 1) * 10 ^ l ≤ (dg + 1) * 10 * 10 ^ l := Nat.mul_le_mul_right _ (by omega)
    omega
theorem vf3 {t p j : Nat} (ht : t < 256) (hp : p < 8) (hb : bt t p = false) (hj : j < 8) : bt (t + 2 ^ p) j = (bt t j || j == p) := by
  have := vF3 t ht p hp j hj
  unfold vB3 at this
  rw [hb, Bool.false_or] at this
  exact eq_of_beq this
theorem vf2 {t p : Nat} (ht : t < 256) (hp : p < 8) : (((Int32.ofNat (revN t) >>> ((7 - Int32.ofNat p) &&& 31)) &&& 1 = 1) ↔ bt t p = true) ∧ (((Int32.ofNat t >>> (Int32.ofNat p &&& 31)) &&& 1 = 0) ↔ bt t p = false) ∧ (bt t p = false → Int32.ofNat t ||| ((1 : Int32) <<< (Int32.ofNat p &&& 31)) = Int32.ofNat (t + 2 ^ p) ∧ t + 2 ^ p < 256) := by
  have h := vF2 t ht p hp
  unfold vB2 at h
  simp only [Bool.and_eq_true, Bool.or_eq_true, decide_eq_true_eq, beq_iff_eq] at h
  obtain ⟨h1, h2, h3⟩ := h
  refine ⟨?_, ?_, fun hb => ?_⟩
  · rw [← h1, decide_eq_true_eq]
  · constructor
    · intro z
      rw [decide_eq_true z] at h2
      simpa using h2.symm
    · intro z
      rw [z] at h2
      simpa using h2
  · rcases h3 with h3 | h3
    · rw [hb] at h3
      exact absurd h3 (by decide)
    · exact h3
theorem LfA.av {np : Nat} (h8 : np ≤ 8) {av : Nat → Prop} : ∀ l t dg t' dg', t < 256 → (∀ p, p < 8 → bt t p = true → p < np ∧ av p) → LfA np av l t dg t' dg' → t' < 256 ∧ ∀ p, p < 8 → bt t' p = true → p < np ∧ av p
  | 0, t, dg, t', dg', ht, ha, h => by
    obtain ⟨rfl, _⟩ := h
    exact ⟨ht, ha⟩
  | l + 1, t, dg, t', dg', ht, ha, h => by
    obtain ⟨p, hp, hav, hb, h⟩ := h
    refine LfA.av h8 l _ _ _ _ ((vf2 ht (by omega)).2.2 hb).2 (fun q hq hbq => ?_) h
    rw [vf3 ht (by omega) hb hq] at hbq
    simp only [Bool.or_eq_true, beq_iff_eq] at hbq
    rcases hbq with z | z
    · exact ha q hq z
    · rw [z]; exact ⟨hp, hav⟩
theorem LfA.all {np : Nat} (h8 : np ≤ 8) {av : Nat → Prop} {ch : Nat → Nat → Bool} : ∀ l t dg t' dg', allF ch l t dg = true → LfA np av l t dg t' dg' → ch t' dg' = true
  | 0, t, dg, t', dg', ha, h => by
    obtain ⟨rfl, rfl⟩ := h
    exact ha
  | l + 1, t, dg, t', dg', ha, h => by
    obtain ⟨p, hp, hav, hb, h⟩ := h
    unfold allF at ha
    rw [List.all_eq_true] at ha
    have := ha p (List.mem_range.mpr (by omega))
    rw [hb, Bool.false_or] at this
    exact LfA.all h8 l _ _ _ _ this h
theorem LfA.ex {np : Nat} {av : Nat → Prop} {T D : Nat} (ha : ∀ p, p < 8 → bt T p = true → p < np ∧ av p) : ∀ l t dg, exF T D l t dg = true → LfA np av l t dg T D
  | 0, t, dg, h => by
    unfold exF at h
    simp only [Bool.and_eq_true, beq_iff_eq] at h
    exact ⟨h.1.symm, h.2.symm⟩
  | l + 1, t, dg, h => by
    unfold exF at h
    rw [List.any_eq_true] at h
    obtain ⟨p, hp, h⟩ := h
    simp only [Bool.and_eq_true, Bool.not_eq_true'] at h
    have q := ha p (List.mem_range.mp hp) h.2.1
    exact ⟨p, q.1, q.2, h.1, LfA.ex ha l _ _ h.2.2⟩
/-- what panes of a set are worth together -/
def prS (pz : Nat → Nat) (t : Nat) : Nat → Nat
  | 0 => 0
  | k + 1 => prS pz t k + if bt t k = true then pz k else 0
theorem prS_add {pz : Nat → Nat} {t p : Nat} (ht : t < 256) (hp : p < 8) (hb : bt t p = false) : ∀ k, k ≤ 8 → prS pz (t + 2 ^ p) k = prS pz t k + if p < k then pz p else 0
  | 0, _ => rfl
  | k + 1, hk => by
    unfold prS
    rw [prS_add ht hp hb k (by omega), vf3 ht hp hb (show k < 8 by omega)]
    by_cases e : k = p
    · subst e
      simp [hb]
    · have e2 : (k == p) = false := by simp [e]
      rw [e2, Bool.or_false]
      by_cases g : p < k
      · rw [if_pos g, if_pos (show p < k + 1 by omega)]; omega
      · rw [if_neg g, if_neg (show ¬ p < k + 1 by omega)]; omega
theorem prS_le {pz : Nat → Nat} (hz : ∀ p, pz p ≤ 99) (t : Nat) : ∀ k, prS pz t k ≤ 99 * k
  | 0 => Nat.le_refl _
  | k + 1 => by
    unfold prS
    have := prS_le hz t k
    have := hz k
    split <;> omega
/-- the best after ways have been tried -/
def BestI (Q : Nat → Nat → Prop) (pz : Nat → Nat) (bp : Int) (b0 d0 b d : Int32) : Prop := ((b = b0 ∧ d = d0) ∧ ∀ t dg, Q t dg → (prS pz t 8 : Int) ≤ bp) ∨ ∃ t dg, Q t dg ∧ b = Int32.ofNat (prS pz t 8) ∧ d = Int32.ofNat dg ∧ bp < (prS pz t 8 : Int) ∧ ∀ t' dg', Q t' dg' → prS pz t' 8 < prS pz t 8 ∨ (prS pz t' 8 = prS pz t 8 ∧ dg ≤ dg')
def vwM (M L : wg_M) : Prop := ∀ a k, (a ≠ 55 ∨ k ≤ 14 ∨ (30 ≤ k ∧ k ≠ 33 ∧ k ≠ 34)) → L.1 a k = M.1 a k
theorem vwM.tr {C D E : wg_M} (h : vwM C D) (k : vwM D E) : vwM C E := fun a i q => (k a i q).trans (h a i q)
def avP (C : wg_C) (d : Int32) (p : Nat) : Prop := passP C (4 + p) d 0 = true
def pzV (val : Int32 → Int32 → Int32 → Int32 → Int32 → Int32 → Int32 → Int32) (C : wg_C) (d : Int32) (p : Nat) : Nat := (saysV val C (Int32.ofNat p) d 2).toInt.toNat
theorem pz_t (val : Int32 → Int32 → Int32 → Int32 → Int32 → Int32 → Int32 → Int32) (C : wg_C) (d : Int32) (p : Nat) : (saysV val C (Int32.ofNat p) d 2).toInt = (pzV val C d p : Nat) ∧ pzV val C d p ≤ 99 := by
  have h := says_b val C (Int32.ofNat p) d 2
  rw [if_neg (by decide)] at h
  unfold pzV
  omega
theorem s9_vf {S : wg_Sh} {C D : wg_C} {np t id : Nat} {val : Int32 → Int32 → Int32 → Int32 → Int32 → Int32 → Int32 → Int32} {M : wg_M} (h : IHo np C M) (ht : TxI S D M t id val) (h4 : (M.1 55 4).toInt = t) (d : Int32) : ∀ (l : Nat) (dp : Nat), l ≤ 4 → l < dp → ∀ (M1 : wg_M) (tk dg : Nat), vwM M M1 → tk < 256 → (dg + 1) * 10 ^ l ≤ 10000 → -1 ≤ (M1.1 55 33).toInt → ∃ M2, f_X9v NN dp 0 M1 (Int32.ofNat l) (Int32.ofNat tk) (Int32.ofNat (prS (pzV val C d) tk 8)) (Int32.ofNat dg) d = some M2 ∧ vwM M M2 ∧ -1 ≤ (M2.1 55 33).toInt ∧ BestI (LfA np (avP C d) l tk dg) (pzV val C d) (M1.1 55 33).toInt (M1.1 55 33) (M1.1 55 34) (M2.1 55 33) (M2.1 55 34)
  | 0, dp, hl, hdp, M1, tk, dg, hM, htk, hdg, hb => by
    obtain ⟨dp, rfl⟩ : ∃ e, dp = e + 1 := ⟨dp - 1, by omega⟩
    have hp := prS_le (pz := pzV val C d) (fun p => (pz_t val C d p).2) tk 8
    show ∃ M2, (if 0 = 0 then f_X9_viewsFrom NN (f_X9v NN dp) M1 (Int32.ofNat 0) (Int32.ofNat tk) (Int32.ofNat (prS (pzV val C d) tk 8)) (Int32.ofNat dg) d else none) = some M2 ∧ _
    rw [if_pos rfl]
    unfold f_X9_viewsFrom
    rw [if_pos (show Int32.ofNat 0 = 0 from rfl)]
    have e1 := oN_t (show prS (pzV val C d) tk 8 < 2147483648 by omega)
    by_cases g : (prS (pzV val C d) tk 8 : Int) ≤ (M1.1 55 33).toInt
    · rw [if_pos (by rw [i_le, e1]; exact g)]
      refine ⟨M1, rfl, hM, hb, Or.inl ⟨⟨rfl, rfl⟩, fun t' dg' hq => ?_⟩⟩
      obtain ⟨rfl, _⟩ := hq
      exact g
    · rw [if_neg (by rw [i_le, e1]; exact g)]
      refine ⟨_, rfl, fun a k q => ?_, ?_, Or.inr ⟨tk, dg, ⟨rfl, rfl⟩, ?_, ?_, by omega, fun t' dg' hq => ?_⟩⟩
      · show (wg_sM (wg_sM M1 55 33 _) 55 34 _).1 a k = _
        by_cases y : a = 55
        · subst y
          rw [sM_k _ _ (by omega), sM_k _ _ (by omega)]
          exact hM _ _ q
        · rw [sM_r _ _ _ _ y, sM_r _ _ _ _ y]
          exact hM _ _ q
      · show -1 ≤ ((wg_sM (wg_sM M1 55 33 _) 55 34 _).1 55 33).toInt
        rw [sM_k _ _ (by decide), sM_s, e1]
        omega
      · show (wg_sM (wg_sM M1 55 33 _) 55 34 _).1 55 33 = _
        rw [sM_k _ _ (by decide), sM_s]
      · show (wg_sM (wg_sM M1 55 33 _) 55 34 _).1 55 34 = _
        rw [sM_s]
      · obtain ⟨rfl, rfl⟩ := hq
        exact Or.inr ⟨rfl, Nat.le_refl _⟩
  | l + 1, dp, hl, hdp, M1, tk, dg, hM, htk, hdg, hb => by
    obtain ⟨dp, rfl⟩ : ∃ e, dp = e + 1 := ⟨dp - 1, by omega⟩
    have h8 := h.1
    have hpz : ∀ p, pzV val C d p ≤ 99 := fun p => (pz_t val C d p).2
    show ∃ M2, (if 0 = 0 then f_X9_viewsFrom NN (f_X9v NN dp) M1 (Int32.ofNat (l + 1)) (Int32.ofNat tk) (Int32.ofNat (prS (pzV val C d) tk 8)) (Int32.ofNat dg) d else none) = some M2 ∧ _
    rw [if_pos rfl]
    unfold f_X9_viewsFrom
    rw [if_neg (by rw [i_eq, oN_t (by omega), Int32.toInt_zero]; omega)]
    have hdg10 : dg < 10000 := by
      have : (dg + 1) * 1 ≤ (dg + 1) * 10 ^ (l + 1) := Nat.mul_le_mul_left _ (Nat.one_le_pow _ _ (by decide))
      omega
    obtain ⟨⟨M2, z⟩, e1, e2, e3, e4⟩ := lp_ok (b := fun (q : wg_M × Int32) => f_X9_viewsFrom_l27 NN (f_X9v NN dp) (Int32.ofNat (l + 1)) (Int32.ofNat tk) (Int32.ofNat (prS (pzV val C d) tk 8)) (Int32.ofNat dg) d q.1 q.2) (fun q => vwM M q.1 ∧ -1 ≤ (q.1.1 55 33).toInt ∧ ∃ k, k ≤ np ∧ q.2 = Int32.ofNat k ∧ BestI (fun t' dg' => ∃ p, p < k ∧ avP C d p ∧ bt tk p = false ∧ LfA np (avP C d) l (tk + 2 ^ p) (10 * dg + p + 1) t' dg') (pzV val C d) (M1.1 55 33).toInt (M1.1 55 33) (M1.1 55 34) (q.1.1 55 33) (q.1.1 55 34)) (fun q => np - q.2.toInt.toNat) (fun q => vwM M q.1 ∧ -1 ≤ (q.1.1 55 33).toInt ∧ BestI (LfA np (avP C d) (l + 1) tk dg) (pzV val C d) (M1.1 55 33).toInt (M1.1 55 33) (M1.1 55 34) (q.1.1 55 33) (q.1.1 55 34)) (by
      rintro ⟨M', z⟩ ⟨j1, j2, k, hk, e, j3⟩
      simp only at j1 j2 e j3
      subst e
      have hI : IHo np C M' := h.keep (fun _ _ _ => rfl) (fun a j q q' => j1 a j (by omega)) (j1 _ _ (by omega))
      have hT : TxI S D M' t id val := ht.keep (fun _ _ _ => rfl) (fun j => j1 _ _ (by omega)) (fun j => j1 _ _ (by omega))
      have hm : M'.1 55 13 = Int32.ofNat np := by rw [hI.2.2.1]; exact oN_eq hI.2.1
      have hμ : ¬ np ≤ k → np - (Int32.ofNat k + 1).toInt.toNat < np - (Int32.ofNat k).toInt.toNat := fun _ => by
        rw [oN_s, oN_t (by omega), oN_t (by omega)]
        omega
      simp only [f_X9_viewsFrom_l27, hm, oN_le (show k < 2147483648 by omega) (show np < 2147483648 by omega), lt_eq]
      by_cases g : np ≤ k
      · right
        rw [if_pos g]
        have : k = np := by omega
        subst this
        exact ⟨_, rfl, j1, j2, j3⟩
      · left
        have hk' : k < np := by omega
        have hp : rg np (Int32.ofNat k) = true := oN_rg hk' (by omega)
        have ck : (Int32.ofNat k).toNatClampNeg = k := oN_cl (by omega)
        rw [if_neg g]
        obtain ⟨-, b2, b3⟩ := vf2 htk (show k < 8 by omega)
        have skip : (∀ t' dg', ¬ (avP C d k ∧ bt tk k = false ∧ LfA np (avP C d) l (tk + 2 ^ k) (10 * dg + k + 1) t' dg')) → ∃ y, (some (Sum.inl (M', Int32.ofNat k + 1)) : Option ((wg_M × Int32) ⊕ (wg_M × Int32))) = some (.inl y) ∧ (vwM M y.1 ∧ -1 ≤ (y.1.1 55 33).toInt ∧ ∃ k, k ≤ np ∧ y.2 = Int32.ofNat k ∧ BestI (fun t' dg' => ∃ p, p < k ∧ avP C d p ∧ bt tk p = false ∧ LfA np (avP C d) l (tk + 2 ^ p) (10 * dg + p + 1) t' dg') (pzV val C d) (M1.1 55 33).toInt (M1.1 55 33) (M1.1 55 34) (y.1.1 55 33) (y.1.1 55 34)) ∧ np - y.2.toInt.toNat < np - (Int32.ofNat k).toInt.toNat := fun hno => by
          refine ⟨_, rfl, ⟨j1, j2, k + 1, by omega, oN_s k, ?_⟩, hμ g⟩
          have sub : ∀ t' dg', (∃ p, p < k + 1 ∧ avP C d p ∧ bt tk p = false ∧ LfA np (avP C d) l (tk + 2 ^ p) (10 * dg + p + 1) t' dg') → ∃ p, p < k ∧ avP C d p ∧ bt tk p = false ∧ LfA np (avP C d) l (tk + 2 ^ p) (10 * dg + p + 1) t' dg' := fun t' dg' ⟨p, hp, hq⟩ => by
            by_cases e : p = k
            · subst e; exact absurd hq (hno t' dg')
            · exact ⟨p, by omega, hq⟩
          rcases j3 with ⟨a1, a2⟩ | ⟨t', dg', ⟨p, a1, a2⟩, a3, a4, a5, a6⟩
          · exact Or.inl ⟨a1, fun t' dg' hq => a2 t' dg' (sub t' dg' hq)⟩
          · exact Or.inr ⟨t', dg', ⟨p, by omega, a2⟩, a3, a4, a5, fun t'' dg'' hq => a6 t'' dg'' (sub t'' dg'' hq)⟩
        by_cases g1 : bt tk k = false
        · rw [if_pos (b2.mpr g1), p9_pass hI hp d 0 (by decide), bd_eq, if_bI, ck]
          by_cases g2 : passP C (4 + k) d 0 = true
          · rw [if_pos g2]
            obtain ⟨M3, u1, u2⟩ := says9 hI hT (by rw [j1 55 4 (by omega)]; exact h4) hp d (w := 2) (by decide)
            obtain ⟨c1, c2⟩ := b3 g1
            have pa := prS_add (pz := pzV val C d) htk (show k < 8 by omega) g1 8 (Nat.le_refl _)
            rw [if_pos (by omega)] at pa
            have pl := prS_le hpz tk 8
            have e5 : Int32.ofNat (prS (pzV val C d) tk 8) + saysV val C (Int32.ofNat k) d 2 = Int32.ofNat (prS (pzV val C d) (tk + 2 ^ k) 8) := by
              have q := pz_t val C d k
              rw [i_eq, i_addN (oN_t (by omega)) q.1 (by omega), pa, oN_t (by omega)]
            have e6 : 10 * Int32.ofNat dg + Int32.ofNat k + 1 = Int32.ofNat (10 * dg + k + 1) := by
              have q1 : (10 * Int32.ofNat dg).toInt = (10 * dg : Nat) := by
                rw [i_mul, oN_t (by omega), show (10 : Int32).toInt = 10 from rfl]
                clear j3
                omega
              rw [i_eq, i_addN (i_addN q1 (oN_t (show k < 2147483648 by omega)) (by omega)) (show (1 : Int32).toInt = (1 : Nat) from rfl) (by omega), oN_t (by omega)]
            have e7 : Int32.ofNat (l + 1) - 1 = Int32.ofNat l := by
              rw [i_eq, i_sub, oN_t (by omega), oN_t (by omega), Int32.toInt_one]
              clear j3
              omega
            have hv3 : vwM M M3 := fun a j q => (u2 a j (by omega)).trans (j1 a j q)
            have h33 : M3.1 55 33 = M'.1 55 33 := u2 _ _ (by omega)
            have h34 : M3.1 55 34 = M'.1 55 34 := u2 _ _ (by omega)
            have hdg' : (10 * dg + k + 1 + 1) * 10 ^ l ≤ 10000 := by
              have q1 : (10 * dg + k + 1 + 1) * 10 ^ l ≤ (dg + 1) * 10 * 10 ^ l := Nat.mul_le_mul_right _ (by omega)
              rw [Nat.pow_succ, Nat.mul_comm (10 ^ l) 10, ← Nat.mul_assoc] at hdg
              omega
            obtain ⟨M4, v1, v2, v3, v4⟩ := s9_vf h ht h4 d l dp (by omega) (by omega) M3 (tk + 2 ^ k) (10 * dg + k + 1) hv3 c2 hdg' (by rw [h33]; exact j2)
            rw [h33, h34] at v4
            rw [u1, bd2_eq, c1, e5, e6, e7, v1, bd_eq]
            refine ⟨_, rfl, ⟨v2, v3, k + 1, by omega, oN_s k, ?_⟩, hμ g⟩
            show BestI _ _ _ _ _ (M4.1 55 33) (M4.1 55 34)
            -- those from k on come behind those before it
            have beh : ∀ t' dg' t'' dg'', (∃ p, p < k ∧ avP C d p ∧ bt tk p = false ∧ LfA np (avP C d) l (tk + 2 ^ p) (10 * dg + p + 1) t' dg') → LfA np (avP C d) l (tk + 2 ^ k) (10 * dg + k + 1) t'' dg'' → dg' ≤ dg'' := fun t' dg' t'' dg'' ⟨p, q1, _, _, q2⟩ q3 => by
              have w1 := LfA.dg h8 l _ _ _ _ q2
              have w2 := LfA.dg h8 l _ _ _ _ q3
              have w3 : (10 * dg + p + 1 + 1) * 10 ^ l ≤ (10 * dg + k + 1) * 10 ^ l := Nat.mul_le_mul_right _ (by omega)
              omega
            have split : ∀ t' dg', (∃ p, p < k + 1 ∧ avP C d p ∧ bt tk p = false ∧ LfA np (avP C d) l (tk + 2 ^ p) (10 * dg + p + 1) t' dg') → (∃ p, p < k ∧ avP C d p ∧ bt tk p = false ∧ LfA np (avP C d) l (tk + 2 ^ p) (10 * dg + p + 1) t' dg') ∨ LfA np (avP C d) l (tk + 2 ^ k) (10 * dg + k + 1) t' dg' := fun t' dg' ⟨p, hp, hq⟩ => by
              by_cases e : p = k
              · subst e; exact Or.inr hq.2.2
              · exact Or.inl ⟨p, by omega, hq⟩
            rcases j3 with ⟨⟨a1, a1'⟩, a2⟩ | ⟨t1, d1, a1, a3, a4, a5, a6⟩
            · rw [a1, a1'] at v4
              rcases v4 with ⟨w1, w2⟩ | ⟨t2, d2, w1, w3, w4, w5, w6⟩
              · refine Or.inl ⟨w1, fun t' dg' hq => ?_⟩
                rcases split t' dg' hq with q | q
                · exact a2 t' dg' q
                · exact w2 t' dg' q
              · refine Or.inr ⟨t2, d2, ⟨k, by omega, g2, g1, w1⟩, w3, w4, w5, fun t' dg' hq => ?_⟩
                rcases split t' dg' hq with q | q
                · have := a2 t' dg' q
                  omega
                · exact w6 t' dg' q
            · have p1 := prS_le hpz t1 8
              have e33 : (M'.1 55 33).toInt = (prS (pzV val C d) t1 8 : Nat) := by rw [a3, oN_t (by omega)]
              rw [e33] at v4
              obtain ⟨pp, pp1, pp2⟩ := a1
              rcases v4 with ⟨⟨w1, w1'⟩, w2⟩ | ⟨t2, d2, w1, w3, w4, w5, w6⟩
              · refine Or.inr ⟨t1, d1, ⟨pp, by omega, pp2⟩, by rw [w1, a3], by rw [w1', a4], a5, fun t' dg' hq => ?_⟩
                rcases split t' dg' hq with q | q
                · exact a6 t' dg' q
                · have := w2 t' dg' q
                  have := beh t1 d1 t' dg' ⟨pp, pp1, pp2⟩ q
                  omega
              · refine Or.inr ⟨t2, d2, ⟨k, by omega, g2, g1, w1⟩, w3, w4, by omega, fun t' dg' hq => ?_⟩
                rcases split t' dg' hq with q | q
                · have := a6 t' dg' q
                  omega
                · exact w6 t' dg' q
          · rw [if_neg g2]
            exact skip (fun t' dg' z => g2 z.1)
        · rw [if_neg (fun z => g1 (b2.mp z))]
          exact skip (fun t' dg' z => g1 z.2.1)) NN (M1, 0) ⟨hM, hb, 0, by omega, rfl, Or.inl ⟨⟨rfl, rfl⟩, fun t' dg' ⟨p, hp, _⟩ => absurd hp (Nat.not_lt_zero _)⟩⟩ (by have := NN_big; show np - _ < NN; omega)
    rw [e1, bd2_eq]
    exact ⟨M2, rfl, e2, e3, e4⟩
