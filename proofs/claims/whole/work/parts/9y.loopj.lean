section
variable {f : Nat → Int32} {n m b : Nat} {hs : Nat → Nat} {T V Pl : Nat → Int32}
/-- the reference at token k, o open -/
def RK (f : Nat → Int32) (n : Nat) (hs : Nat → Nat) (T V Pl : Nat → Int32) (L : wg_M) (k o : Nat) : Prop := L.1 55 28 = 0 ∧ (∃ p, Pl k = Int32.ofNat p ∧ p ≤ 160 ∧ CurT f n (T k) (V k) p (hs (k + 1)) L) ∧ L.1 55 27 = Int32.ofNat o
def RBad (Pl : Nat → Int32) (L : wg_M) (j : Nat) : Prop := L.1 55 28 = 1 ∧ L.1 55 29 = Pl j
def rF (L K : wg_M) : Prop := ∀ a j, (a ≠ 55 ∨ j ≤ 22 ∨ 30 ≤ j) → K.1 a j = L.1 a j
theorem rF.rfl (L : wg_M) : rF L L := fun _ _ _ => by trivial
theorem rF.tr {C D E : wg_M} (h : rF C D) (k : rF D E) : rF C E := fun a i q => (k a i q).trans (h a i q)
theorem rF.nx {L K : wg_M} (h : nxF L K) : rF L K := fun a i q => h a i (by omega)
theorem rF.up {C D : wg_M} (h : rF C D) {k : Nat} (v : Int32) (hk : 22 < k ∧ k < 30) : rF C (wg_sM D 55 k v) := fun a i q => by
  by_cases e : a = 55
  · rw [e, sM_k _ _ (by omega), ← e]; exact h a i q
  · rw [sM_r _ _ _ _ e]; exact h a i q
theorem rF.txt {L K : wg_M} (h : TxtL f n b L) (k : rF L K) : TxtL f n b K := by
  obtain ⟨h1, h2, h3, h4, h5⟩ := h
  refine ⟨by rw [k _ _ (by decide)]; exact h1, by rw [k _ _ (by decide)]; exact h2, h3, h4, fun i hi => ?_⟩
  rw [k _ _ (by omega)]
  exact h5 i hi
theorem CurT.keep {tk vl : Int32} {p h' : Nat} {L K : wg_M} (h : CurT f n tk vl p h' L) (h1 : K.1 55 23 = L.1 55 23) (h2 : K.1 55 24 = L.1 55 24) (h3 : K.1 55 25 = L.1 55 25) (h4 : K.2 55 = L.2 55) : CurT f n tk vl p h' K := by
  unfold CurT at *
  rw [h1, h2, h3, h4]
  exact h
theorem RK.op {L : wg_M} {k o : Nat} (h : RK f n hs T V Pl L k o) (o' : Nat) : RK f n hs T V Pl (wg_sM L 55 27 (Int32.ofNat o')) k o' := by
  obtain ⟨h1, ⟨p, h2, h3, h4⟩, h5⟩ := h
  refine ⟨by rw [sM_k _ _ (by decide)]; exact h1, ⟨p, h2, h3, h4.keep (sM_k _ _ (by decide)) (sM_k _ _ (by decide)) (sM_k _ _ (by decide)) rfl⟩, sM_s _ _ _ _⟩
theorem s9_adv {L : wg_M} {k o : Nat} (ht : TxtL f n b L) (hT : Toks f n m hs T V Pl) (h : RK f n hs T V Pl L k o) (hk : k + 1 < m) : ∃ K, f_X9_next NN L = some K ∧ nxF L K ∧ RK f n hs T V Pl K (k + 1) o := by
  obtain ⟨h1, ⟨p, h2, h3, h4⟩, h5⟩ := h
  obtain ⟨t1, t2, t3, t4, t5, t6⟩ := hT
  have tk := t4 k hk
  have h23 : L.1 55 23 = Int32.ofNat (hs (k + 1)) := by
    obtain ⟨-, -, -, c⟩ := h4
    rcases c with ⟨z, -⟩ | ⟨-, z, -⟩ | ⟨-, z, -⟩ | ⟨-, z, -⟩ | ⟨-, z⟩
    · exact absurd z tk.1
    · exact z
    · exact z
    · exact z
    · exact absurd z tk.2
  obtain ⟨p', q1, q2, q3⟩ := t3 (k + 1) hk
  obtain ⟨K, k1, k2, k3⟩ := s9_next ht h23 q3 (t6 (k + 2) (by omega))
  exact ⟨K, k1, k2, by rw [k2 _ _ (by decide)]; exact h1, ⟨p', q2, q1, k3⟩, by rw [k2 _ _ (by decide)]; exact h5⟩
theorem s9_fail {L : wg_M} {k o : Nat} (h : RK f n hs T V Pl L k o) : ∃ K, f_X9_fail L = some K ∧ rF L K ∧ RBad Pl K k := by
  obtain ⟨h1, ⟨p, h2, h3, h4⟩, h5⟩ := h
  unfold f_X9_fail
  rw [if_pos h1]
  simp only [lt_eq]
  refine ⟨_, rfl, ((rF.rfl L).up _ (by decide)).up _ (by decide), ?_, ?_⟩
  · rw [sM_k _ _ (by decide), sM_s]
  · rw [sM_s, sM_k _ _ (by decide), h2]; exact h4.1
theorem RBad.op {L : wg_M} {j : Nat} (h : RBad Pl L j) (v : Int32) : RBad Pl (wg_sM L 55 27 v) j := ⟨by rw [sM_k _ _ (by decide)]; exact h.1, by rw [sM_k _ _ (by decide)]; exact h.2⟩
def OKs (f : Nat → Int32) (n m : Nat) (hs : Nat → Nat) (T V Pl : Nat → Int32) (C0 : wg_C) (L0 : wg_M) (k0 len0 o : Nat) (C : wg_C) (L : wg_M) (v : Int32) : Prop := ∃ k len, CK T m C k len ∧ RK f n hs T V Pl L k o ∧ k0 < k ∧ len0 ≤ len ∧ len + k0 ≤ k + len0 ∧ (∀ i, i < len0 → C 29 i = C0 29 i) ∧ Ev (fun i => L0.1 55 (15 + i)) (C 29) len0 len v
def BDs (m : Nat) (Pl : Nat → Int32) (C : wg_C) (L : wg_M) : Prop := ∃ j, j < m ∧ CBad Pl C j ∧ RBad Pl L j ∧ ∃ len, len ≤ 160 ∧ C 28 3 = Int32.ofNat len
def JOut (f : Nat → Int32) (n m : Nat) (hs : Nat → Nat) (T V Pl : Nat → Int32) (C0 : wg_C) (L0 : wg_M) (k0 len0 o : Nat) (C : wg_C) (L : wg_M) (v : Int32) : Prop := rdF C0 C ∧ rF L0 L ∧ (OKs f n m hs T V Pl C0 L0 k0 len0 o C L v ∨ BDs m Pl C L)
def Sim (f : Nat → Int32) (n m b : Nat) (hs : Nat → Nat) (T V Pl : Nat → Int32) (o : Nat) (G8 : wg_C → Int32 → Option wg_C) (G9 : wg_M → Option (Int32 × wg_M)) : Prop := ∀ C L k len, BsC T V Pl m C → TxtL f n b L → CK T m C k len → RK f n hs T V Pl L k o → ∃ C' v L', G8 C (Int32.ofNat o) = some C' ∧ G9 L = some (v, L') ∧ JOut f n m hs T V Pl C L k len o C' L' v
theorem Toks.lt (hT : Toks f n m hs T V Pl) {k : Nat} (hk : k < m) (h1 : T k ≠ -1) (h2 : T k ≠ -2) : k + 1 < m := by
  obtain ⟨t1, t2, t3, t4, t5, t6⟩ := hT
  by_cases e : k + 1 < m
  · exact e
  · have : m - 1 = k := by omega
    rw [this] at t5
    rcases t5 with z | z
    · exact absurd z h1
    · exact absurd z h2
theorem Toks.ne (hT : Toks f n m hs T V Pl) {j : Nat} (hj : j < m) : ¬ Pl j = -1 := by
  obtain ⟨p, q1, q2, q3⟩ := hT.2.2.1 j hj
  rw [q2, i_eq, oN_t (by omega)]
  show ¬ (p : Int) = -1
  omega
theorem Toks.num (hT : Toks f n m hs T V Pl) {k : Nat} (hk : k < m) (h : T k = 1) : 0 ≤ (V k).toInt ∧ (V k).toInt ≤ 9999 := by
  obtain ⟨p, q1, q2, q3⟩ := hT.2.2.1 k hk
  obtain ⟨hp, hc⟩ := q3
  rcases hc with ⟨_, z, _⟩ | ⟨_, _, _, z⟩ | ⟨_, _, hr, z⟩ | ⟨_, z, _, z2⟩ | ⟨_, _, z, _⟩
  · rw [h] at z; exact absurd z (by decide)
  · rcases z with ⟨j, hj, _, z, _⟩ | ⟨z, _⟩
    · have := tkW_b j hj
      rw [← z, h, Int32.toInt_one] at this
      omega
    · rw [h] at z; exact absurd z (by decide)
  · rcases z with ⟨z1, _, z2⟩ | ⟨_, z⟩
    · have q := numV_lt (f := f) (p := p) (hs (k + 1) - p) (fun r h1 h2 => hr.2.2.1 r h1 (by omega))
      have q' : 10 ^ (hs (k + 1) - p) ≤ 10 ^ 4 := Nat.pow_le_pow_right (by decide) z1
      rw [z2, oN_t (by omega)]
      omega
    · rw [h] at z; exact absurd z (by decide)
  · have := sgn_ge z
    rw [← z2, h, Int32.toInt_one] at this
    omega
  · rw [h] at z; exact absurd z (by decide)
/-! ===== behind a fault nothing is read ===== -/
theorem b8_one {C : wg_C} {rc : Nat → wg_C → Int32 → Option wg_C} (h : ¬ C 28 0 = -1) (h2 : C 28 2 = -2) (x : Int32) : f_X2_readOne NN rc C x = some C := by
  unfold f_X2_readOne f_X2_readOne_j86
  rw [h2, if_neg (by decide), if_neg (by decide), if_neg (by decide), if_neg (by decide), s8_failB h h2]
  rfl
theorem lp_end {σ ρ : Type} {bd : σ → Option (σ ⊕ ρ)} {x : σ} {r : ρ} (h : bd x = some (.inr r)) : lp bd NN x = some r := by
  obtain ⟨k, hk⟩ := NN_split 1 (by decide)
  rw [show NN = k + 1 by omega]
  exact lp_inr h
theorem b8_term {C : wg_C} {rc : Nat → wg_C → Int32 → Option wg_C} (h2 : C 28 2 = -2) (x : Int32) (hr : rc 5 C x = some C) : f_X2_readTerm NN rc C x = some C := by
  unfold f_X2_readTerm
  rw [hr, bd_eq, lp_end (r := (C, 0)) (by simp only [f_X2_readTerm_l8, h2]; rfl)]
  rfl
theorem b8_sum {C : wg_C} {rc : Nat → wg_C → Int32 → Option wg_C} (h2 : C 28 2 = -2) (x : Int32) (hr : rc 4 C x = some C) : f_X2_readSum NN rc C x = some C := by
  unfold f_X2_readSum
  rw [hr, bd_eq, lp_end (r := (C, 0)) (by simp only [f_X2_readSum_l8, h2]; rfl)]
  rfl
theorem b8_not {C : wg_C} {rc : Nat → wg_C → Int32 → Option wg_C} (h2 : C 28 2 = -2) (x : Int32) (hr : rc 3 C x = some C) : f_X2_readNot NN rc C x = some C := by
  unfold f_X2_readNot f_X2_readNot_j34
  rw [hr, bd_eq, h2]
  rfl
theorem b8_and {C : wg_C} {rc : Nat → wg_C → Int32 → Option wg_C} (h2 : C 28 2 = -2) (x : Int32) (hr : rc 2 C x = some C) : f_X2_readAnd NN rc C x = some C := by
  unfold f_X2_readAnd
  rw [hr, bd_eq, lp_end (r := (C, 0)) (by simp only [f_X2_readAnd_l8, h2]; rfl)]
  rfl
theorem b8_or {C : wg_C} {rc : Nat → wg_C → Int32 → Option wg_C} (h2 : C 28 2 = -2) (x : Int32) (hr : rc 1 C x = some C) : f_X2_readOr NN rc C x = some C := by
  unfold f_X2_readOr
  rw [hr, bd_eq, lp_end (r := (C, 0)) (by simp only [f_X2_readOr_l8, h2]; rfl)]
  rfl
theorem b8_g {C : wg_C} (h : ¬ C 28 0 = -1) (h2 : C 28 2 = -2) (x : Int32) (d : Nat) : f_X2g NN (d + 6) 0 C x = some C := by
  have a5 : f_X2g NN (d + 1) 5 C x = some C := b8_one h h2 x
  have a4 : f_X2g NN (d + 2) 4 C x = some C := b8_term h2 x a5
  have a3 : f_X2g NN (d + 3) 3 C x = some C := b8_sum h2 x a4
  have a2 : f_X2g NN (d + 4) 2 C x = some C := b8_not h2 x a3
  have a1 : f_X2g NN (d + 5) 1 C x = some C := b8_and h2 x a2
  exact b8_or h2 x a1
/-! ===== a token that can't begin a number is a fault in all of them ===== -/
theorem f8_one {C : wg_C} {rc : Nat → wg_C → Int32 → Option wg_C} {D : wg_C} (n1 : ¬ C 28 2 = 1) (n2 : ¬ C 28 2 = 2) (n3 : ¬ C 28 2 = 45) (n4 : ¬ C 28 2 = 40) (hf : f_X2_fail C = some D) (x : Int32) : f_X2_readOne NN rc C x = some D := by
  unfold f_X2_readOne f_X2_readOne_j86
  rw [if_neg n1, if_neg n2, if_neg n3, if_neg n4, hf]
  rfl
theorem f8_term {C D : wg_C} {rc : Nat → wg_C → Int32 → Option wg_C} (h2 : D 28 2 = -2) (x : Int32) (hr : rc 5 C x = some D) : f_X2_readTerm NN rc C x = some D := by
  unfold f_X2_readTerm
  rw [hr, bd_eq, lp_end (r := (D, 0)) (by simp only [f_X2_readTerm_l8, h2]; rfl)]
  rfl
theorem f8_sum {C D : wg_C} {rc : Nat → wg_C → Int32 → Option wg_C} (h2 : D 28 2 = -2) (x : Int32) (hr : rc 4 C x = some D) : f_X2_readSum NN rc C x = some D := by
  unfold f_X2_readSum
  rw [hr, bd_eq, lp_end (r := (D, 0)) (by simp only [f_X2_readSum_l8, h2]; rfl)]
  rfl
theorem stepO_env {e1 e2 : Nat → Int32} (h : ∀ w, w < 6 → e1 w = e2 w) (c : Int32) (st : List Int32) : stepO e2 c st = stepO e1 c st := by
  unfold stepO
  by_cases g : rg 6 (c / 16) = true
  · rw [h _ (cl_lt g)]
  · rw [if_neg g, if_neg g]
theorem exec_env {e1 e2 : Nat → Int32} (h : ∀ w, w < 6 → e1 w = e2 w) {cd : Nat → Int32} : ∀ n a st, exec e2 cd n a st = exec e1 cd n a st
  | 0, _, _ => rfl
  | n + 1, a, st => by
    show (stepO e2 (cd a) st).bind (exec e2 cd n (a + 1)) = (stepO e1 (cd a) st).bind (exec e1 cd n (a + 1))
    rw [stepO_env h]
    congr 1
    funext s
    exact exec_env h n (a + 1) s
theorem Ev.env {e1 e2 : Nat → Int32} (h : ∀ w, w < 6 → e1 w = e2 w) {cd : Nat → Int32} {a b : Nat} {v : Int32} (k : Ev e1 cd a b v) : Ev e2 cd a b v := ⟨k.1, fun st => by rw [exec_env h]; exact k.2 st⟩
/-! ===== loops over operands ===== -/
theorem loopJ (hT : Toks f n m hs T V Pl) {o : Nat} {G8 : wg_C → Int32 → Option wg_C} {G9 : wg_M → Option (Int32 × wg_M)} (hS : Sim f n m b hs T V Pl o G8 G9) {isop : Int32 → Prop} (hop : ∀ t, isop t → t ≠ -1 ∧ t ≠ -2) {opc : Int32 → Int32} (hopc : ∀ t, isop t → 4 ≤ (opc t).toInt ∧ (opc t).toInt ≤ 10) {b8 : wg_C × Int32 → Option ((wg_C × Int32) ⊕ (wg_C × Int32))} {b9 : wg_M × Int32 → Option ((wg_M × Int32) ⊕ (wg_M × Int32))} (e8 : ∀ C (i : Int32), ¬ isop (C 28 2) → b8 (C, i) = some (.inr (C, i))) (e9 : ∀ L x k, RK f n hs T V Pl L k o → TxtL f n b L → ¬ isop (T k) → b9 (L, x) = some (.inr (L, x))) (e9b : ∀ L x, L.1 55 28 = 1 → b9 (L, x) = some (.inr (L, x))) (s8 : ∀ C (i : Nat), isop (C 28 2) → i < 160 → b8 (C, Int32.ofNat i) = bd (f_X2_advance C) fun C6 => bd (G8 C6 (Int32.ofNat o)) fun C8 => bd (f_X2_emit C8 (opc (C 28 2)) 0) fun C10 => some (.inl (C10, Int32.ofNat i + 1))) (s9 : ∀ L x k, RK f n hs T V Pl L k o → TxtL f n b L → isop (T k) → b9 (L, x) = bd (f_X9_next NN L) fun M8 => bd2 (G9 M8) fun r M11 => some (.inl (M11, jnV (opc (T k)) x r))) (hno : ¬ isop (-2)) {C0 : wg_C} {L0 : wg_M} {k0 len0 : Nat} (hb : BsC T V Pl m C0) (ht : TxtL f n b L0) {C : wg_C} {L : wg_M} {x : Int32} (hJ : JOut f n m hs T V Pl C0 L0 k0 len0 o C L x) : ∃ C' i' L' v, lp b8 NN (C, (0 : Int32)) = some (C', i') ∧ lp b9 NN (L, x) = some (L', v) ∧ JOut f n m hs T V Pl C0 L0 k0 len0 o C' L' v := by
  have hm := hT.1.2
  obtain ⟨⟨C', i'⟩, ⟨L', v⟩, q1, q2, q3⟩ := lp_rel (b := b8) (c := b9) (fun y z => (rdF C0 y.1 ∧ rF L0 z.1) ∧ ∃ i : Nat, i ≤ 160 ∧ y.2 = Int32.ofNat i ∧ ((∃ k len, CK T m y.1 k len ∧ RK f n hs T V Pl z.1 k o ∧ k0 < k ∧ i < k ∧ len0 ≤ len ∧ len + k0 ≤ k + len0 ∧ (∀ j, j < len0 → y.1 29 j = C0 29 j) ∧ Ev (fun j => L0.1 55 (15 + j)) (y.1 29) len0 len z.2) ∨ BDs m Pl y.1 z.1)) (fun y => 200 - y.2.toInt.toNat) (fun y z => JOut f n m hs T V Pl C0 L0 k0 len0 o y.1 z.1 z.2) (by
    rintro ⟨C, iv⟩ ⟨L, x⟩ ⟨⟨hr8, hr9⟩, i, hi, e, hc⟩
    simp only at hr8 hr9 e hc
    subst e
    rcases hc with ⟨k, len, c1, c2, c3, c3', c4, c5, c6, c7⟩ | hB
    · have hb' := hb.rd hr8
      have ht' := hr9.txt ht
      by_cases g : isop (T k)
      · left
        have hk1 := hT.lt c1.2.2.2.2.1 (hop _ g).1 (hop _ g).2
        have hg : isop (C 28 2) := by rw [c1.2.2.1]; exact g
        rw [s8 C i hg (by omega), s9 L x k c2 ht' g, c1.2.2.1]
        obtain ⟨D, d1, d2, d3, d4⟩ := s8_adv hb' hm c1 hk1
        obtain ⟨K, k1, k2, k3⟩ := s9_adv ht' hT c2 hk1
        rw [d1, k1, bd_eq, bd_eq]
        obtain ⟨E, r, F, u1, u2, u3, u4, u5⟩ := hS D K (k + 1) len (hb'.rd d2) (k2.txt ht') d3 k3
        rw [u1, u2, bd_eq, bd2_eq]
        have fr8 : rdF C0 E := (hr8.tr d2).tr u3
        have fr9 : rF L0 F := (hr9.tr (rF.nx k2)).tr u4
        have hμ : 200 - (Int32.ofNat i + 1).toInt.toNat < 200 - (Int32.ofNat i).toInt.toNat := by
          rw [oN_s, oN_t (by omega), oN_t (by omega)]
          omega
        rcases u5 with ⟨k', len', v1, v2, v3, v4, v5, v6, v7⟩ | ⟨j, v1, v2, v3, len', v4, v5⟩
        · have l1 := v1.2.2.2.2.2
          have l2 := v1.2.2.2.2.1
          have l3 := c1.2.2.2.2.2
          obtain ⟨H, w1, w2, w3, w4, w5⟩ := s8_emit v1 (show len' < 160 by omega) (show len' + 1 ≤ k' by omega) (opc (T k)) 0
          rw [w1, bd_eq]
          refine ⟨_, _, rfl, rfl, ⟨⟨fr8.tr w2, fr9⟩, i + 1, by omega, oN_s i, Or.inl ⟨k', len' + 1, w3, v2, by omega, by omega, by omega, by omega, fun q hq => ?_, ?_⟩⟩, hμ⟩
          · show H 29 q = _
            rw [w5 q (by omega), v6 q (by omega), d4]
            exact c6 q hq
          · show Ev _ (H 29) len0 (len' + 1) _
            have z1 : Ev (fun j => L0.1 55 (15 + j)) (H 29) len0 len x := c7.congr (fun q hq => by rw [w5 q (by omega), v6 q hq, d4])
            have z2 : Ev (fun j => L0.1 55 (15 + j)) (H 29) len len' r := by
              have v7' : Ev (fun j => K.1 55 (15 + j)) (H 29) len len' r := v7.congr (fun q hq => w5 q (by omega))
              exact v7'.env (fun w hw => by
                show K.1 55 (15 + w) = L0.1 55 (15 + w)
                rw [k2 _ _ (by omega)]
                exact hr9 _ _ (by omega))
            exact z1.bin z2 (fun st => by rw [w4]; exact st_bin _ (hopc _ g) _ _ st)
        · obtain ⟨H, w1, w2, w3, len2, w4, w5⟩ := s8_emitB v2 v5 v4 (opc (T k)) 0
          rw [w1, bd_eq]
          exact ⟨_, _, rfl, rfl, ⟨⟨fr8.tr w2, fr9⟩, i + 1, by omega, oN_s i, Or.inr ⟨j, v1, w3, v3, len2, w5, w4⟩⟩, hμ⟩
      · right
        rw [e8 C _ (by rw [c1.2.2.1]; exact g), e9 L x k c2 ht' g]
        exact ⟨_, _, rfl, rfl, hr8, hr9, Or.inl ⟨k, len, c1, c2, c3, c4, c5, c6, c7⟩⟩
    · right
      obtain ⟨j, v1, v2, v3, len', v4, v5⟩ := id hB
      rw [e8 C _ (by rw [v2.2]; exact hno), e9b L x v3.1]
      exact ⟨_, _, rfl, rfl, hr8, hr9, Or.inr hB⟩) NN NN (C, 0) (L, x) (by
    obtain ⟨h1, h2, h3⟩ := hJ
    refine ⟨⟨h1, h2⟩, 0, by omega, rfl, ?_⟩
    rcases h3 with ⟨k, len, c1, c2, c3, c4, c5, c6, c7⟩ | h3
    · exact Or.inl ⟨k, len, c1, c2, c3, by omega, c4, c5, c6, c7⟩
    · exact Or.inr h3) (by have := NN_big; show 200 - _ < NN; omega) (by have := NN_big; show 200 - _ < NN; omega)
  exact ⟨C', i', L', v, q1, q2, q3⟩
end
