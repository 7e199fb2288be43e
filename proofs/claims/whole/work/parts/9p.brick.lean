def pN (k : Nat) : Nat := (popV (Int32.ofNat k)).toInt.toNat
set_option maxRecDepth 100000 in
theorem pN_all : ∀ n : Nat, n < 9 → ∀ k : Nat, k < 2 ^ n → 0 ≤ (popV (Int32.ofNat k)).toInt ∧ (popV (Int32.ofNat k)).toInt ≤ n := by decide +kernel
set_option maxRecDepth 100000 in
theorem sh_all : ∀ n : Nat, n < 9 → (1 : Int32) <<< (Int32.ofNat n &&& 31) = Int32.ofNat (2 ^ n) := by decide +kernel
set_option maxRecDepth 100000 in
theorem bk_full : ∀ n : Nat, n < 9 → ∀ p : Nat, p < n → bkV (Int32.ofNat (2 ^ n) - 1) p = true := by decide +kernel
theorem pw_le {n : Nat} (h : n ≤ 8) : 2 ^ n ≤ 256 := Nat.pow_le_pow_right (by decide) h
theorem pN_t {n k : Nat} (hn : n ≤ 8) (hk : k < 2 ^ n) : (popV (Int32.ofNat k)).toInt = (pN k : Nat) ∧ pN k ≤ n := by
  have := pN_all n (by omega) k hk
  unfold pN
  omega
theorem need_both {np : Nat} {C : wg_C} {M : wg_M} {o : Int32} {s0 x : Nat} (h : IHo np C M) (ho : rg 3 o = true) (hs0 : s0 < 192) (hx : x < 192) (h14 : M.1 55 14 = 0) : ∃ v D L, f_X8_neededAlone NN C (Int32.ofNat s0) (Int32.ofNat x) o = some (v, D) ∧ (bd3 (lp (fun q => f_X9_brick_l50 NN (Int32.ofNat s0) (Int32.ofNat x) o q.1 q.2.1 q.2.2) NN (M, (0 : Int32), (0 : Int32))) fun M47 v48 v49 => some (v48, M47)) = some (v, L) ∧ (∀ a k, a ≠ 36 → D a k = C a k) ∧ ∀ a k, a ≠ 65 → L.1 a k = M.1 a k := by
  have h8 := h.1
  unfold f_X8_neededAlone
  obtain ⟨⟨D, v, z⟩, ⟨L, v', z'⟩, e1, e2, e3, e4, e5⟩ := lp_rel (b := fun (q : wg_C × Int32 × Int32) => f_X8_neededAlone_l6 NN (Int32.ofNat s0) (Int32.ofNat x) o q.1 q.2.1 q.2.2) (c := fun (q : wg_M × Int32 × Int32) => f_X9_brick_l50 NN (Int32.ofNat s0) (Int32.ofNat x) o q.1 q.2.1 q.2.2) (fun q r => q.2 = r.2 ∧ (∃ k, k ≤ np ∧ q.2.2 = Int32.ofNat k) ∧ (∀ a k, a ≠ 36 → q.1 a k = C a k) ∧ ∀ a k, a ≠ 65 → r.1.1 a k = M.1 a k) (fun q => np - q.2.2.toInt.toNat) (fun q r => q.2 = r.2 ∧ (∀ a k, a ≠ 36 → q.1 a k = C a k) ∧ ∀ a k, a ≠ 65 → r.1.1 a k = M.1 a k) (by
    rintro ⟨C', v, z⟩ ⟨M', v', z'⟩ ⟨e, ⟨k, hk, e2⟩, j1, j2⟩
    simp only [Prod.mk.injEq] at e e2 j1 j2
    obtain ⟨rfl, rfl⟩ := e
    subst e2
    have hn : C' 1 2 = Int32.ofNat np := by rw [j1 _ _ (by decide)]; exact oN_eq h.2.1
    have hm : M'.1 55 13 = Int32.ofNat np := by rw [j2 _ _ (by decide), h.2.2.1]; exact oN_eq h.2.1
    simp only [f_X8_neededAlone_l6, f_X9_brick_l50, f_X9_brick_j80l50, hn, hm, oN_le (show k < 2147483648 by omega) (show np < 2147483648 by omega), lt_eq]
    by_cases g : np ≤ k
    · right
      rw [if_pos g, if_pos g]
      exact ⟨_, _, rfl, rfl, rfl, j1, j2⟩
    · left
      have hμ : np - (Int32.ofNat k + 1).toInt.toNat < np - (Int32.ofNat k).toInt.toNat := by
        rw [oN_s, oN_t (by omega), oN_t (by omega)]
        omega
      obtain ⟨u, D, L, u1, u2, u3, u4, u5⟩ := com_both (s := (1 : Int32) <<< (Int32.ofNat k &&& 31)) h ho hs0 hx j1 j2 h14
      rw [if_neg g, if_neg g, u1, u2, bd2_eq, bd2_eq]
      rcases u3 with ⟨rfl, _⟩ | ⟨rfl, _⟩
      · rw [if_pos rfl, if_pos rfl]
        exact ⟨_, _, rfl, rfl, ⟨rfl, ⟨k + 1, by omega, oN_s k⟩, u4, u5⟩, hμ⟩
      · rw [if_neg (by decide), if_neg (by decide)]
        exact ⟨_, _, rfl, rfl, ⟨by simp, ⟨k + 1, by omega, oN_s k⟩, u4, u5⟩, hμ⟩) NN NN (C, 0, 0) (M, 0, 0) ⟨rfl, ⟨0, by omega, rfl⟩, fun _ _ _ => rfl, fun _ _ _ => rfl⟩ (by have := NN_big; show np - _ < NN; omega) (by have := NN_big; show np - _ < NN; omega)
  rw [e1, e2]
  simp only [Prod.mk.injEq] at e3
  obtain ⟨rfl, rfl⟩ := e3
  exact ⟨v, D, L, rfl, rfl, e4, e5⟩
/-- the least of a kind: by bits, then by number -/
def Lex (Q : Nat → Prop) (n t : Nat) : Prop := t < n ∧ Q t ∧ ∀ u, u < n → Q u → pN t < pN u ∨ (pN t = pN u ∧ t ≤ u)
theorem Lex.uniq {Q : Nat → Prop} {n t u : Nat} (h : Lex Q n t) (k : Lex Q n u) : t = u := by
  have := h.2.2 u k.1 k.2.1
  have := k.2.2 t h.1 h.2.1
  omega
theorem br9 {np : Nat} {C : wg_C} {M : wg_M} {o : Int32} {s0 x : Nat} (h : IHo np C M) (ho : rg 3 o = true) (hs0 : s0 < 192) (hx : x < 192) (h14 : M.1 55 14 = 0) : ∃ (q : wg_M × Int32 × Int32), lp (fun (q : wg_M × Int32 × Int32) => f_X9_brick_l98 NN (Int32.ofNat s0) (Int32.ofNat x) o q.1 q.2.1 q.2.2) NN (M, (-1 : Int32), (0 : Int32)) = some q ∧ (∀ a k, a ≠ 65 → q.1.1 a k = M.1 a k) ∧ ((q.2.1 = -1 ∧ ∀ t, t < 2 ^ np → ¬ ¬ comV C np o (Int32.ofNat t) s0 x) ∨ ∃ t, q.2.1 = Int32.ofNat t ∧ Lex (fun t => ¬ comV C np o (Int32.ofNat t) s0 x) (2 ^ np) t) := by
  have h8 := h.1
  have hpw := pw_le h8
  refine lp_ok (fun q => (∀ a k, a ≠ 65 → q.1.1 a k = M.1 a k) ∧ ∃ k, k ≤ 2 ^ np ∧ q.2.2 = Int32.ofNat k ∧ ((q.2.1 = -1 ∧ ∀ t, t < k → ¬ ¬ comV C np o (Int32.ofNat t) s0 x) ∨ ∃ t, q.2.1 = Int32.ofNat t ∧ Lex (fun t => ¬ comV C np o (Int32.ofNat t) s0 x) k t)) (fun q => 256 - q.2.2.toInt.toNat) _ ?_ NN (M, -1, 0) ⟨fun _ _ _ => rfl, 0, Nat.zero_le _, rfl, Or.inl ⟨rfl, fun t ht => absurd ht (Nat.not_lt_zero _)⟩⟩ (by have := NN_big; show 256 - _ < NN; omega)
  rintro ⟨M', v, z⟩ ⟨j1, k, hk, e, j2⟩
  simp only at j1 e j2
  subst e
  have hm : M'.1 55 13 = Int32.ofNat np := by rw [j1 _ _ (by decide), h.2.2.1]; exact oN_eq h.2.1
  simp only [f_X9_brick_l98, f_X9_brick_j128l98, hm, sh_all np (by omega), oN_le (show k < 2147483648 by omega) (show 2 ^ np < 2147483648 by omega), lt_eq]
  by_cases g : 2 ^ np ≤ k
  · right
    rw [if_pos g]
    have : k = 2 ^ np := by omega
    subst this
    exact ⟨_, rfl, j1, j2⟩
  · left
    have hμ : 256 - (Int32.ofNat k + 1).toInt.toNat < 256 - (Int32.ofNat k).toInt.toNat := by
      rw [oN_s, oN_t (by omega), oN_t (by omega)]
      omega
    obtain ⟨u, D, L, u1, u2, u3, u4, u5⟩ := com_both (s := Int32.ofNat k) h ho hs0 hx (C' := C) (fun _ _ _ => rfl) j1 h14
    obtain ⟨pk1, pk2⟩ := pN_t h8 (show k < 2 ^ np by omega)
    rw [if_neg g, u2]
    rcases j2 with ⟨rfl, a2⟩ | ⟨t, rfl, a1, a2, a3⟩
    · rw [if_pos rfl, bd2_eq]
      rcases u3 with ⟨rfl, b⟩ | ⟨rfl, b⟩
      · rw [if_pos rfl]
        refine ⟨_, rfl, ⟨u5, k + 1, by omega, oN_s k, Or.inr ⟨k, rfl, by omega, b, fun y hy hq => ?_⟩⟩, hμ⟩
        by_cases e : y = k
        · subst e; exact Or.inr ⟨rfl, Nat.le_refl _⟩
        · exact absurd hq (a2 y (by omega))
      · rw [if_neg (by decide)]
        refine ⟨_, rfl, ⟨u5, k + 1, by omega, oN_s k, Or.inl ⟨rfl, fun y hy hq => ?_⟩⟩, hμ⟩
        by_cases e : y = k
        · subst e; exact hq b
        · exact a2 y (by omega) hq
    · obtain ⟨pt1, pt2⟩ := pN_t h8 (show t < 2 ^ np by omega)
      have ht1 : ¬ Int32.ofNat t = -1 := by
        rw [i_eq, oN_t (by omega)]
        show ¬ (t : Int) = -1
        omega
      rw [if_neg ht1, s9_pop (oN_rg (show k < 2048 by omega) (by decide)), bd_eq, s9_pop (oN_rg (show t < 2048 by omega) (by decide)), bd_eq, bd2_eq]
      have c1 : popV (Int32.ofNat t) ≤ popV (Int32.ofNat k) ↔ pN t ≤ pN k := by
        rw [i_le, pt1, pk1]
        omega
      by_cases g1 : pN t ≤ pN k
      · rw [if_pos (c1.mpr g1)]
        refine ⟨_, rfl, ⟨j1, k + 1, by omega, oN_s k, Or.inr ⟨t, rfl, by omega, a2, fun y hy hq => ?_⟩⟩, hμ⟩
        by_cases e : y = k
        · subst e; omega
        · exact a3 y (by omega) hq
      · rw [if_neg (fun z => g1 (c1.mp z))]
        rcases u3 with ⟨rfl, b⟩ | ⟨rfl, b⟩
        · rw [if_pos rfl]
          refine ⟨_, rfl, ⟨u5, k + 1, by omega, oN_s k, Or.inr ⟨k, rfl, by omega, b, fun y hy hq => ?_⟩⟩, hμ⟩
          by_cases e : y = k
          · subst e; exact Or.inr ⟨rfl, Nat.le_refl _⟩
          · have := a3 y (by omega) hq
            omega
        · rw [if_neg (by decide)]
          refine ⟨_, rfl, ⟨u5, k + 1, by omega, oN_s k, Or.inr ⟨t, rfl, by omega, a2, fun y hy hq => ?_⟩⟩, hμ⟩
          by_cases e : y = k
          · subst e; exact absurd b hq
          · exact a3 y (by omega) hq
theorem br8_in {np : Nat} {C D : wg_C} {M : wg_M} {o : Int32} {s0 x m : Nat} (h : IHo np C M) (ho : rg 3 o = true) (hs0 : s0 < 192) (hx : x < 192) (h14 : M.1 55 14 = 0) (hm : m ≤ np) (hD : ∀ a k, a ≠ 36 → D a k = C a k) (v1 : Int32) (hv1 : v1 = Int32.ofNat (2 ^ np)) : ∃ r, lp (fun (q : wg_C × Int32) => f_X8_fewestToBrick_l52 NN (Int32.ofNat s0) (Int32.ofNat x) o v1 (Int32.ofNat m) q.1 q.2) NN (D, (0 : Int32)) = some r ∧ ((∃ E z, r = .inl (E, z) ∧ (∀ a k, a ≠ 36 → E a k = C a k) ∧ ∀ t, t < 2 ^ np → pN t = m → ¬ ¬ comV C np o (Int32.ofNat t) s0 x) ∨ ∃ E t, r = .inr (Int32.ofNat t, E) ∧ (∀ a k, a ≠ 36 → E a k = C a k) ∧ t < 2 ^ np ∧ pN t = m ∧ (¬ comV C np o (Int32.ofNat t) s0 x) ∧ ∀ u, u < t → pN u = m → ¬ ¬ comV C np o (Int32.ofNat u) s0 x) := by
  have h8 := h.1
  have hpw := pw_le h8
  subst hv1
  refine lp_ok (fun q => (∀ a k, a ≠ 36 → q.1 a k = C a k) ∧ ∃ k, k ≤ 2 ^ np ∧ q.2 = Int32.ofNat k ∧ ∀ t, t < k → pN t = m → ¬ ¬ comV C np o (Int32.ofNat t) s0 x) (fun q => 256 - q.2.toInt.toNat) _ ?_ NN (D, 0) ⟨hD, 0, Nat.zero_le _, rfl, fun t ht => absurd ht (Nat.not_lt_zero _)⟩ (by have := NN_big; show 256 - _ < NN; omega)
  rintro ⟨E, z⟩ ⟨j1, k, hk, e, j2⟩
  simp only at j1 e
  subst e
  simp only [f_X8_fewestToBrick_l52, oN_le (show k < 2147483648 by omega) (show 2 ^ np < 2147483648 by omega), s8_pop, bd_eq, lt_eq]
  by_cases g : 2 ^ np ≤ k
  · right
    rw [if_pos g]
    have : k = 2 ^ np := by omega
    subst this
    exact ⟨_, rfl, Or.inl ⟨_, _, rfl, j1, j2⟩⟩
  · have hμ : 256 - (Int32.ofNat k + 1).toInt.toNat < 256 - (Int32.ofNat k).toInt.toNat := by
      rw [oN_s, oN_t (by omega), oN_t (by omega)]
      omega
    obtain ⟨u, F, L, u1, u2, u3, u4, u5⟩ := com_both (s := Int32.ofNat k) h ho hs0 hx j1 (M' := M) (fun _ _ _ => rfl) h14
    obtain ⟨pk1, pk2⟩ := pN_t h8 (show k < 2 ^ np by omega)
    have c1 : popV (Int32.ofNat k) = Int32.ofNat m ↔ pN k = m := by
      rw [i_eq, pk1, oN_t (by omega)]
      omega
    rw [if_neg g]
    by_cases g1 : pN k = m
    · rw [if_pos (c1.mpr g1), u1, bd2_eq]
      rcases u3 with ⟨rfl, b⟩ | ⟨rfl, b⟩
      · right
        rw [if_pos rfl]
        exact ⟨_, rfl, Or.inr ⟨F, k, rfl, u4, by omega, g1, b, j2⟩⟩
      · left
        rw [if_neg (by decide)]
        refine ⟨_, rfl, ⟨u4, k + 1, by omega, oN_s k, fun t ht hp hq => ?_⟩, hμ⟩
        by_cases e : t = k
        · subst e; exact hq b
        · exact j2 t (by omega) hp hq
    · left
      rw [if_neg (fun z => g1 (c1.mp z))]
      refine ⟨_, rfl, ⟨j1, k + 1, by omega, oN_s k, fun t ht hp hq => ?_⟩, hμ⟩
      by_cases e : t = k
      · subst e; exact g1 hp
      · exact j2 t (by omega) hp hq
theorem br8 {np : Nat} {C : wg_C} {M : wg_M} {o : Int32} {s0 x : Nat} (h : IHo np C M) (ho : rg 3 o = true) (hs0 : s0 < 192) (hx : x < 192) (h14 : M.1 55 14 = 0) : ∃ v D, f_X8_fewestToBrick NN C (Int32.ofNat s0) (Int32.ofNat x) o = some (v, D) ∧ (∀ a k, a ≠ 36 → D a k = C a k) ∧ ((v = -1 ∧ ∀ t, t < 2 ^ np → ¬ ¬ comV C np o (Int32.ofNat t) s0 x) ∨ ∃ t, v = Int32.ofNat t ∧ Lex (fun t => ¬ comV C np o (Int32.ofNat t) s0 x) (2 ^ np) t) := by
  have h8 := h.1
  have hpw := pw_le h8
  have hn : C 1 2 = Int32.ofNat np := oN_eq h.2.1
  unfold f_X8_fewestToBrick
  rw [hn, sh_all np (by omega), lt_eq]
  obtain ⟨u, F, L, u1, u2, u3, u4, u5⟩ := com_both (s := Int32.ofNat (2 ^ np) - 1) h ho hs0 hx (C' := C) (M' := M) (fun _ _ _ => rfl) (fun _ _ _ => rfl) h14
  rw [u1, bd2_eq]
  rcases u3 with ⟨rfl, b⟩ | ⟨rfl, b⟩
  · rw [if_pos rfl]
    obtain ⟨r, e1, e2⟩ := lp_ok (b := fun (q : wg_C × Int32) => f_X8_fewestToBrick_l37 NN (Int32.ofNat s0) (Int32.ofNat x) o (Int32.ofNat (2 ^ np)) q.1 q.2) (fun q => (∀ a k, a ≠ 36 → q.1 a k = C a k) ∧ ∃ k, k ≤ np + 1 ∧ q.2 = Int32.ofNat k ∧ ∀ t, t < 2 ^ np → pN t < k → ¬ ¬ comV C np o (Int32.ofNat t) s0 x) (fun q => 10 - q.2.toInt.toNat) (fun r => (∃ E z, r = .inl (E, z) ∧ (∀ a k, a ≠ 36 → E a k = C a k) ∧ ∀ t, t < 2 ^ np → ¬ ¬ comV C np o (Int32.ofNat t) s0 x) ∨ ∃ E t, r = .inr (Int32.ofNat t, E) ∧ (∀ a k, a ≠ 36 → E a k = C a k) ∧ Lex (fun t => ¬ comV C np o (Int32.ofNat t) s0 x) (2 ^ np) t) (by
      rintro ⟨E, z⟩ ⟨j1, k, hk, e, j2⟩
      simp only at j1 e
      subst e
      have hnE : E 1 2 = Int32.ofNat np := by rw [j1 _ _ (by decide)]; exact hn
      simp only [f_X8_fewestToBrick_l37, hnE, oN_lt (show k < 2147483648 by omega) (show np < 2147483648 by omega), lt_eq]
      by_cases g : np < k
      · right
        rw [if_pos g]
        exact ⟨_, rfl, Or.inl ⟨_, _, rfl, j1, fun t ht => j2 t ht (by have := (pN_t h8 ht).2; omega)⟩⟩
      · rw [if_neg g]
        obtain ⟨r, v1, v2⟩ := br8_in h ho hs0 hx h14 (m := k) (by omega) j1 _ rfl
        rw [v1]
        rcases v2 with ⟨F, z, rfl, w1, w2⟩ | ⟨F, t, rfl, w1, w2, w3, w4, w5⟩
        · left
          refine ⟨_, rfl, ⟨w1, k + 1, by omega, oN_s k, fun t ht hp hq => ?_⟩, ?_⟩
          · by_cases e : pN t = k
            · exact w2 t ht e hq
            · exact j2 t ht (by omega) hq
          · show 10 - (Int32.ofNat k + 1).toInt.toNat < 10 - (Int32.ofNat k).toInt.toNat
            rw [oN_s, oN_t (by omega), oN_t (by omega)]
            omega
        · right
          refine ⟨_, rfl, Or.inr ⟨F, t, rfl, w1, w2, w4, fun y hy hq => ?_⟩⟩
          by_cases e1 : pN y < k
          · exact absurd hq (j2 y hy e1)
          · by_cases e2 : pN y = k
            · by_cases e3 : y < t
              · exact absurd hq (w5 y e3 e2)
              · exact Or.inr ⟨by omega, by omega⟩
            · exact Or.inl (by omega)) NN (F, 0) ⟨u4, 0, by omega, rfl, fun t _ ht => absurd ht (Nat.not_lt_zero _)⟩ (by have := NN_big; show 10 - _ < NN; omega)
    rw [e1]
    rcases e2 with ⟨E, z, rfl, w1, w2⟩ | ⟨E, t, rfl, w1, w2⟩
    · exact ⟨_, _, rfl, w1, Or.inl ⟨rfl, w2⟩⟩
    · exact ⟨_, _, rfl, w1, Or.inr ⟨t, rfl, w2⟩⟩
  · rw [if_neg (by decide)]
    refine ⟨_, _, rfl, u4, Or.inl ⟨rfl, fun t ht hq => hq (Rch.mono (fun p y z hp => ?_) b)⟩⟩
    have := hp.2.1
    rw [bk_full np (by omega) p hp.1] at this
    exact absurd this (by decide)
theorem h_brick : H_brick wInv := by
  intro S C M h hw p q o w
  obtain ⟨hs, np, nt, h1, h2, h3, h4, h5, h6, h7⟩ := id h
  have hno : ∃ (r : Int32) (C1 : wg_C) (M1 : wg_M), (some (-2, C) : Option (Int32 × wg_C)) = some (r, C1) ∧ (some (-2, M) : Option (Int32 × wg_M)) = some (r, M1) ∧ wInv S C1 M1 := ⟨_, _, _, rfl, rfl, h⟩
  unfold f_X8_brick f_X9_brick
  rw [show f_X9_in w.toInt64 0 1 = some (bI (rg 2 w = true)) from s_inr w 1 2 rfl]
  simp only [s8_isSpot, s9_isSpot, s8_isSort, s9_isSort, bd_eq, if_bI]
  by_cases g1 : rg 192 p = true
  case neg => rw [if_neg g1, if_neg g1]; exact hno
  by_cases g2 : rg 192 q = true
  case neg => rw [if_pos g1, if_pos g1, if_neg g2, if_neg g2]; exact hno
  by_cases g3 : rg 3 o = true
  case neg => rw [if_pos g1, if_pos g1, if_pos g2, if_pos g2, if_neg g3, if_neg g3]; exact hno
  rw [if_pos g1, if_pos g1, if_pos g2, if_pos g2, if_pos g3, if_pos g3]
  have qw := rg_iff 2 w
  by_cases g4 : rg 2 w = true
  case neg =>
    have qw : ¬ (0 ≤ w.toInt ∧ w.toInt < 2) := fun z => g4 (qw.mpr z)
    rw [if_neg g4]
    by_cases y : w < 0
    · rw [if_pos y]; exact hno
    · rw [if_neg y, if_neg (by rw [i_lt, Int32.toInt_zero] at y; rw [i_le, Int32.toInt_one]; omega)]; exact hno
  have qw := qw.mp g4
  rw [if_pos g4, if_neg (by rw [i_lt, Int32.toInt_zero]; omega), if_pos (by rw [i_le, Int32.toInt_one]; omega)]
  obtain ⟨s0, hs0, rfl⟩ := rg_oN g1
  obtain ⟨x, hx, rfl⟩ := rg_oN g2
  have keep : ∀ (D : wg_C) (L : wg_M), (∀ a k, a ≠ 36 → D a k = C a k) → (∀ a k, a ≠ 65 → L.1 a k = M.1 a k) → wInv S D L := fun D L d2 l2 => h.keep (fun a k z => d2 a k (by unfold pC at z; omega)) (fun a k z => l2 a k (by unfold pM at z; omega))
  have hw2 : w = 0 ∨ w = 1 := by
    simp only [i_eq]
    show _ = (0 : Int) ∨ _ = (1 : Int)
    omega
  rcases hw2 with rfl | rfl
  · rw [if_pos rfl, if_neg (by decide)]
    obtain ⟨v, D, d1, d2, d3⟩ := br8 h1 g3 hs0 hx h6
    obtain ⟨⟨L, v', z⟩, l1, l2, l3⟩ := br9 h1 g3 hs0 hx h6
    simp only at l2 l3
    rw [d1, l1, bd2_eq, bd3_eq]
    have e : v = v' := by
      rcases d3 with ⟨rfl, a⟩ | ⟨t, rfl, a⟩
      · rcases l3 with ⟨rfl, b⟩ | ⟨u, rfl, b⟩
        · rfl
        · exact absurd b.2.1 (a u b.1)
      · rcases l3 with ⟨rfl, b⟩ | ⟨u, rfl, b⟩
        · exact absurd a.2.1 (b t a.1)
        · rw [a.uniq b]
    subst e
    exact ⟨_, _, _, rfl, rfl, keep _ _ d2 l2⟩
  · rw [if_neg (by decide), if_pos rfl]
    obtain ⟨v, D, L, d1, d2, d3, d4⟩ := need_both h1 g3 hs0 hx h6
    rw [d1, d2, bd2_eq]
    exact ⟨_, _, _, rfl, rfl, keep _ _ d3 d4⟩
