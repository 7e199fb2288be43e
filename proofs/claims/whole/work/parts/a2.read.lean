section
variable {f : Nat → Int32} {n m : Nat} {hs : Nat → Nat} {T V Pl : Nat → Int32}
/-- a text of the reference, in its row -/
def TxA (f : Nat → Int32) (n t : Nat) (L : wg_M) : Prop := t < 6 ∧ n ≤ 160 ∧ L.1 57 t = Int32.ofNat n ∧ ∀ i, i < n → L.1 56 (160 * t + i) = f i ∧ 0 ≤ (f i).toInt ∧ (f i).toInt ≤ 255
def rG (L K : wg_M) : Prop := ∀ a j, (a ≠ 55 ∨ j ≤ 20 ∨ 30 ≤ j) → K.1 a j = L.1 a j
theorem rG.up {C D : wg_M} (h : rG C D) {k : Nat} (v : Int32) (hk : 20 < k ∧ k < 30) : rG C (wg_sM D 55 k v) := fun a i q => by
  by_cases e : a = 55
  · rw [e, sM_k _ _ (by omega), ← e]; exact h a i q
  · rw [sM_r _ _ _ _ e]; exact h a i q
theorem rG.tf {C D E : wg_M} (h : rG C D) (k : rF D E) : rG C E := fun a i q => (k a i (by omega)).trans (h a i q)
def chain8 (C : wg_C) : Option wg_C :=
  bd (f_X2_readPart NN C (3 : Int32) (0 : Int32)) fun C19 =>
  bd (f_X2_readPart NN C19 (4 : Int32) (1 : Int32)) fun C21 =>
  bd (f_X2_readPart NN C21 (5 : Int32) (2 : Int32)) fun C23 =>
  bd (f_X2_expect C23 (-1 : Int32)) fun C25 => some C25
/-- where the reading of a text begins, of the reference -/
theorem s9_begin (hT : Toks f n m hs T V Pl) {t : Nat} {L : wg_M} (h : TxA f n t L) : ∃ K, rG L K ∧ TxtL f n (160 * t) K ∧ RK f n hs T V Pl K 0 0 ∧ ∀ w, f_X9_read NN L (Int32.ofNat t) w = bd2 (stg9 0 K) fun r17 M18 => bd2 (stg9 1 M18) fun r23 M24 => bd2 (stg9 2 M24) fun r29 M30 => f_X9_read_j125 NN M30 w r17 r23 r29 := by
  obtain ⟨h1, h2, h3, h4⟩ := h
  have e0 : (160 : Int32) * Int32.ofNat t = Int32.ofNat (160 * t) := by
    rw [i_eq, i_mul, oN_t (by omega), oN_t (by omega), show (160 : Int32).toInt = 160 from rfl]
    omega
  have hE : ∃ E, E = wg_sM (wg_sM (wg_sM (wg_sM (wg_sM L 55 21 (Int32.ofNat (160 * t))) 55 22 (Int32.ofNat n)) 55 23 0) 55 27 0) 55 28 0 := ⟨_, rfl⟩
  obtain ⟨E, hE⟩ := hE
  have rL : rG L L := fun _ _ _ => rfl
  have r1 : rG L E := by
    rw [hE]
    exact ((((rL.up _ (by decide)).up _ (by decide)).up _ (by decide)).up _ (by decide)).up _ (by decide)
  have e21 : E.1 55 21 = Int32.ofNat (160 * t) := by rw [hE, sM_k _ _ (by decide), sM_k _ _ (by decide), sM_k _ _ (by decide), sM_k _ _ (by decide), sM_s]
  have e22 : E.1 55 22 = Int32.ofNat n := by rw [hE, sM_k _ _ (by decide), sM_k _ _ (by decide), sM_k _ _ (by decide), sM_s]
  have e23 : E.1 55 23 = Int32.ofNat 0 := by rw [hE, sM_k _ _ (by decide), sM_k _ _ (by decide), sM_s]; rfl
  have e27 : E.1 55 27 = Int32.ofNat 0 := by rw [hE, sM_k _ _ (by decide), sM_s]; rfl
  have e28 : E.1 55 28 = 0 := by rw [hE, sM_s]
  have tE : TxtL f n (160 * t) E := ⟨e21, e22, by omega, h2, fun i hi => by
    rw [r1 56 _ (by omega)]
    exact h4 i hi⟩
  obtain ⟨t1, t2, t3, t4, t5, t6⟩ := id hT
  obtain ⟨p, q1, q2, q3⟩ := t3 0 (by omega)
  rw [t2] at q3
  obtain ⟨K, k1, k2, k3⟩ := s9_next tE e23 q3 (t6 1 (by omega))
  have rE : rF E K := rF.nx k2
  have rk : RK f n hs T V Pl K 0 0 := ⟨by rw [k2 _ _ (by decide)]; exact e28, ⟨p, q2, q1, k3⟩, by rw [k2 _ _ (by decide)]; exact e27⟩
  refine ⟨K, r1.tf rE, rE.txt tE, rk, fun w => ?_⟩
  unfold f_X9_read
  simp only [lt_eq]
  rw [ck_pos (oN_inb h1 (by decide)), oN_cl (show t < 2147483648 by omega), e0, sM_r _ _ _ _ (show 57 ≠ 55 by decide), h3, ← hE, k1, bd_eq]
  have s0 : stg9 0 K = bd (f_X9_isWord K (99 : Int32) (111 : Int32) (115 : Int32) (116 : Int32) (115 : Int32) (0 : Int32) (0 : Int32) (0 : Int32)) fun r => f_X9_part NN K r := by
    unfold stg9
    rw [if_pos rk.1]
    rfl
  rw [s0]
  have rb : ∀ (x : Option Int32) (g : Int32 → Option (Int32 × wg_M)) (k : Int32 → wg_M → Option (Int32 × wg_M)), (bd x fun r => bd2 (g r) k) = bd2 (bd x g) k := fun x g k => by
    cases x <;> rfl
  rw [rb]
  congr 1
  funext r17 M18
  have s1 : ∀ k : Int32 → wg_M → Option (Int32 × wg_M), (if M18.1 55 28 = 0 then (bd (f_X9_isWord M18 (119 : Int32) (101 : Int32) (116 : Int32) (115 : Int32) (0 : Int32) (0 : Int32) (0 : Int32) (0 : Int32)) fun r21 => bd2 (f_X9_part NN M18 r21) k) else k 0 M18) = bd2 (stg9 1 M18) k := fun k => by
    unfold stg9
    by_cases g : M18.1 55 28 = 0
    · rw [if_pos g, if_pos g, rb]
      rfl
    · rw [if_neg g, if_neg g]
      rfl
  rw [s1]
  congr 1
  funext r23 M24
  unfold f_X9_read_j91 stg9
  by_cases g : M24.1 55 28 = 0
  · rw [if_pos g, if_pos g, rb]
    rfl
  · rw [if_neg g, if_neg g]
    rfl
/-- a text is read by both -/
theorem simRead (hT : Toks f n m hs T V Pl) {t : Nat} {L : wg_M} (h : TxA f n t L) {C : wg_C} (hb : BsC T V Pl m C) (hc : CK T m C 0 0) : ∃ C' L' v0 v1 v2, chain8 C = some C' ∧ (∀ w, f_X9_read NN L (Int32.ofNat t) w = some (if w = 0 then v0 else if w = 1 then v1 else v2, L')) ∧ rdG C C' ∧ rG L L' ∧ ((C' 28 0 = -1 ∧ L'.1 55 28 = 0 ∧ ∃ e0 e1 e2, e2 ≤ 160 ∧ C' 28 3 = Int32.ofNat e2 ∧ C' 30 0 = Int32.ofNat e0 ∧ C' 30 1 = Int32.ofNat e1 ∧ C' 30 2 = Int32.ofNat e2 ∧ Ev (fun i => L.1 55 (15 + i)) (C' 29) 0 e0 v0 ∧ Ev (fun i => L.1 55 (15 + i)) (C' 29) e0 e1 v1 ∧ Ev (fun i => L.1 55 (15 + i)) (C' 29) e1 e2 v2) ∨ (∃ p : Nat, p ≤ 160 ∧ C' 28 0 = Int32.ofNat p ∧ L'.1 55 28 = 1 ∧ L'.1 55 29 = Int32.ofNat p)) := by
  obtain ⟨K, b1, b2, b3, b4⟩ := s9_begin hT h
  have hm := hT.1.2
  have P0 : PSt f n m hs T V Pl C K 0 (fun _ => 0) (fun _ => 0) C K := ⟨rdG.rfl C, rF.rfl K, Or.inl ⟨0, hc, b3, rfl, fun i hi => absurd hi (Nat.not_lt_zero _)⟩⟩
  obtain ⟨C1, x0, L1, e1, p1, q1, P1⟩ := P0.next hT hb b2 (by decide)
  obtain ⟨C2, x1, L2, e2, p2, q2, P2⟩ := P1.next hT hb b2 (by decide)
  obtain ⟨C3, x2, L3, e3, p3, q3, f8, f9, P3⟩ := P2.next hT hb b2 (by decide)
  have p1' : f_X2_readPart NN C (3 : Int32) (0 : Int32) = some C1 := p1
  have p2' : f_X2_readPart NN C1 (4 : Int32) (1 : Int32) = some C2 := p2
  have p3' : f_X2_readPart NN C2 (5 : Int32) (2 : Int32) = some C3 := p3
  have ch : chain8 C = bd (f_X2_expect C3 (-1 : Int32)) fun C25 => some C25 := by
    unfold chain8
    rw [p1', bd_eq, p2', bd_eq, p3', bd_eq]
  have rd : ∀ w, f_X9_read NN L (Int32.ofNat t) w = f_X9_read_j125 NN L3 w x0 x1 x2 := fun w => by
    rw [b4 w, q1, bd2_eq, q2, bd2_eq, q3, bd2_eq]
  have j145 : ∀ w M, f_X9_read_j145 NN M w x0 x1 x2 = some (if w = 0 then x0 else if w = 1 then x1 else x2, M) := fun w M => by
    unfold f_X9_read_j145
    by_cases w0 : w = 0
    · rw [if_pos w0, if_pos w0]
    · rw [if_neg w0, if_neg w0]
      by_cases w1 : w = 1
      · rw [if_pos w1, if_pos w1]
      · rw [if_neg w1, if_neg w1]
  have envK : ∀ w, w < 6 → (fun i => K.1 55 (15 + i)) w = (fun i => L.1 55 (15 + i)) w := fun w hw => b1 _ _ (by omega)
  have r3 : rG L L3 := b1.tf f9
  rw [ch]
  unfold f_X2_expect
  rcases P3 with ⟨k, c1, c2, c3, c4⟩ | hB
  · obtain ⟨z1, z2, z3⟩ := c4 0 (by decide)
    obtain ⟨y1, y2, y3⟩ := c4 1 (by decide)
    obtain ⟨x1', x2', x3'⟩ := c4 2 (by decide)
    rw [c1.2.2.1]
    by_cases g : T k = -1
    · -- the end
      rw [if_pos g]
      have hk1 : ¬ k + 1 < m := fun z => (hT.2.2.2.1 k z).1 g
      have hkm := c1.2.2.2.2.1
      have hlk : e3 3 ≤ k := c1.2.2.2.2.2
      have ad : f_X2_advance C3 = some C3 := by
        have hb3 := hb.rg f8
        unfold f_X2_advance f_X2_advance_j23
        rw [c1.2.1, hb3.2.2.2, oN_s, if_pos ((oN_le (show k + 1 < 2147483648 by omega) (show m < 2147483648 by omega)).mpr (by omega)), ck_pos (oN_inb (show k < 161 by omega) (by decide)), oN_cl (show k < 2147483648 by omega)]
        simp only [lt_eq]
        rw [up_same (by rw [c1.2.2.1, hb3.1])]
      rw [ad, bd_eq]
      have tk0 : L3.1 55 24 = 0 := by
        obtain ⟨-, ⟨p, -, -, -, -, -, cc⟩, -⟩ := c2
        rcases cc with ⟨-, z⟩ | ⟨-, -, -, z⟩ | ⟨-, -, z, -⟩ | ⟨-, -, z, -⟩ | ⟨-, z⟩
        · exact z
        · rcases z with ⟨j, hj, -, z, -⟩ | ⟨z, -⟩
          · have := tkW_b j hj
            rw [← z, g, show (-1 : Int32).toInt = -1 from rfl] at this
            omega
          · rw [g] at z; exact absurd z (by decide)
        · rw [g] at z; exact absurd z (by decide)
        · rw [g] at z
          have := sgn_ge z
          rw [show (-1 : Int32).toInt = -1 from rfl] at this
          omega
        · rw [g] at z; exact absurd z (by decide)
      refine ⟨C3, L3, x0, x1, x2, rfl, fun w => ?_, f8, r3, Or.inl ⟨c1.1, c2.1, e3 1, e3 2, e3 3, by omega, c1.2.2.2.1, z1, y1, x1', ?_, ?_, ?_⟩⟩
      · rw [rd w]
        unfold f_X9_read_j125
        rw [if_pos c2.1, if_pos tk0]
        exact j145 w L3
      · rw [← c3]
        exact z3.env envK
      · exact y3.env envK
      · exact x3'.env envK
    · rw [if_neg g]
      obtain ⟨D, M, d1, d2, d3, d4, d5, d6⟩ := jFail hT (hb.rg f8) c1 c2
      obtain ⟨j, v1, v2, v3, len', v4, v5⟩ := id d5
      obtain ⟨p, w1, w2, w3⟩ := hT.2.2.1 j v1
      have nk : ¬ L3.1 55 24 = 0 := by
        obtain ⟨-, ⟨p, -, -, -, -, -, cc⟩, -⟩ := c2
        rcases cc with ⟨z, -⟩ | ⟨z, -⟩ | ⟨z, -⟩ | ⟨z, -⟩ | ⟨z, -⟩
        · exact absurd z g
        all_goals (rw [z]; decide)
      rw [d1, bd_eq]
      refine ⟨D, M, x0, x1, x2, rfl, fun w => ?_, f8.tr d3.g, r3.tf d4, Or.inr ⟨p, w1, by rw [v2.1]; exact w2, v3.1, by rw [v3.2]; exact w2⟩⟩
      rw [rd w]
      unfold f_X9_read_j125
      rw [if_pos c2.1, if_neg nk, d2, bd_eq]
      exact j145 w M
  · obtain ⟨j, v1, v2, v3, len', v4, v5⟩ := id hB
    obtain ⟨p, w1, w2, w3⟩ := hT.2.2.1 j v1
    rw [v2.2, if_neg (by decide), s8_failB (by rw [v2.1]; exact hT.ne v1) v2.2, bd_eq]
    refine ⟨C3, L3, x0, x1, x2, rfl, fun w => ?_, f8, r3, Or.inr ⟨p, w1, by rw [v2.1]; exact w2, v3.1, by rw [v3.2]; exact w2⟩⟩
    rw [rd w]
    unfold f_X9_read_j125
    rw [if_neg (by rw [v3.1]; decide)]
    exact j145 w L3
end
