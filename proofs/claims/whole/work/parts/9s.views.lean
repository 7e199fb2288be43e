theorem vf1 {t : Nat} (ht : t < 256) : revN t < 256 ∧ revN (revN t) = t ∧ popV (Int32.ofNat t) = Int32.ofNat (pcN t) ∧ pcN (revN t) = pcN t := by
  have h := vF1 t ht
  unfold vB1 at h
  simp only [Bool.and_eq_true, decide_eq_true_eq] at h
  exact h
theorem pcN_le (t : Nat) : pcN t ≤ 8 := by unfold pcN; omega
def PRv (val : Int32 → Int32 → Int32 → Int32 → Int32 → Int32 → Int32 → Int32) (C : wg_C) (np : Nat) (d : Int32) (p : Nat) : Int32 := if p < np ∧ passP C (4 + p) d 0 = true then Int32.ofNat (pzV val C d p) else -1
theorem s8_prices {S : wg_Sh} {C : wg_C} {np t id nt : Nat} {val : Int32 → Int32 → Int32 → Int32 → Int32 → Int32 → Int32 → Int32} {M : wg_M} (h : IHo np C M) (ht : TxI S C M t id val) (ht1 : (C 1 3).toInt = t) (hnt : t < nt) (hnt6 : nt ≤ 6) (h31 : (C 31 1).toInt = nt) (d : Int32) : ∃ E, f_X8_fillPrices NN S C d = some E ∧ (∀ a k, a ≠ 33 → a ≠ 34 → a ≠ 43 → E a k = C a k) ∧ ∀ p, p < 8 → E 43 p = PRv val C np d p := by
  have h8 := h.1
  unfold f_X8_fillPrices
  obtain ⟨⟨E, z⟩, e1, e2, e3⟩ := lp_ok (b := fun (q : wg_C × Int32) => f_X8_fillPrices_l2 NN S d q.1 q.2) (fun q => (∀ a k, a ≠ 33 → a ≠ 34 → a ≠ 43 → q.1 a k = C a k) ∧ ∃ k, k ≤ 8 ∧ q.2 = Int32.ofNat k ∧ ∀ p, p < k → q.1 43 p = PRv val C np d p) (fun q => 8 - q.2.toInt.toNat) (fun q => (∀ a k, a ≠ 33 → a ≠ 34 → a ≠ 43 → q.1 a k = C a k) ∧ ∀ p, p < 8 → q.1 43 p = PRv val C np d p) (by
    rintro ⟨E, z⟩ ⟨j1, k, hk, e, j2⟩
    simp only at j1 e j2
    subst e
    have hn : E 1 2 = Int32.ofNat np := by rw [j1 _ _ (by decide) (by decide) (by decide)]; exact oN_eq h.2.1
    have g0 : (8 : Int32) ≤ Int32.ofNat k ↔ 8 ≤ k := oN_le (show k < 2147483648 by omega) (show 8 < 2147483648 by omega)
    simp only [f_X8_fillPrices_l2, f_X8_fillPrices_j41l2, g0, hn, oN_le (show k < 2147483648 by omega) (show np < 2147483648 by omega), lt_eq]
    by_cases g : 8 ≤ k
    · right
      rw [if_pos g]
      have : k = 8 := by omega
      subst this
      exact ⟨_, rfl, j1, j2⟩
    · left
      have hμ : 8 - (Int32.ofNat k + 1).toInt.toNat < 8 - (Int32.ofNat k).toInt.toNat := by
        rw [oN_s, oN_t (by omega), oN_t (by omega)]
        omega
      have put : ∀ (D : wg_C) (u : Int32), (∀ a j, a ≠ 33 → a ≠ 34 → D a j = E a j) → u = PRv val C np d k → ∃ y, (some (Sum.inl (wg_up D 43 k u, Int32.ofNat k + 1)) : Option ((wg_C × Int32) ⊕ (wg_C × Int32))) = some (.inl y) ∧ ((∀ a k, a ≠ 33 → a ≠ 34 → a ≠ 43 → y.1 a k = C a k) ∧ ∃ k, k ≤ 8 ∧ y.2 = Int32.ofNat k ∧ ∀ p, p < k → y.1 43 p = PRv val C np d p) ∧ 8 - y.2.toInt.toNat < 8 - (Int32.ofNat k).toInt.toNat := fun D u hD hu => by
        refine ⟨_, rfl, ⟨fun a j q1 q2 q3 => ?_, k + 1, by omega, oN_s k, fun p hp => ?_⟩, hμ⟩
        · show wg_up D 43 k u a j = _
          rw [up_r _ _ _ _ q3, hD _ _ q1 q2]
          exact j1 a j q1 q2 q3
        · show wg_up D 43 k u 43 p = _
          by_cases e : p = k
          · rw [e, up_s, hu]
          · rw [up_k _ _ e, hD _ _ (by decide) (by decide)]
            exact j2 p (by omega)
      have none0 : (¬ (k < np ∧ passP C (4 + k) d 0 = true)) → (-1 : Int32) = PRv val C np d k := fun z => by
        unfold PRv
        rw [if_neg z]
      rw [if_neg g]
      simp only [ck_pos (oN_inb (show k < 8 by omega) (by decide)), oN_cl (show k < 2147483648 by omega), if_true, show ¬ (1 : Int32) = 0 by decide, if_false]
      by_cases g1 : np ≤ k
      · rw [if_pos g1]
        exact put E _ (fun _ _ _ _ => rfl) (none0 (by omega))
      · rw [if_neg g1]
        have hk' : k < np := by omega
        have hp : rg np (Int32.ofNat k) = true := oN_rg hk' (by omega)
        have ck : (Int32.ofNat k).toNatClampNeg = k := oN_cl (by omega)
        have hv : vwC C E 2 := ⟨fun a j q => j1 a j (by omega) (by omega) (by omega), fun j _ => j1 2 j (by decide) (by decide) (by decide)⟩
        have hB : ∀ j, E (4 + k) j = C (4 + k) j := fun j => hv.1 _ j (Or.inr (by omega))
        have hpass : f_X1_passes E (4 + k) d 0 = some (bI (passP C (4 + k) d 0 = true)) := by
          rw [s8_passes E _ _ _ (by rw [hB]; have := h.pn hp; rw [ck] at this; exact this), hB, hB, hB]
          rfl
        rw [hpass, bd_eq, if_bI]
        by_cases g2 : passP C (4 + k) d 0 = true
        · rw [if_pos g2]
          obtain ⟨E1, w1, w2⟩ := worth8 (N := M) h hv (by decide) (ht.keep (fun a j q => j1 a j (by omega) (by omega) (by omega)) (fun _ => rfl) (fun _ => rfl)) (by rw [hv.1 1 3 (Or.inl rfl)]; exact ht1) hnt hnt6 (by rw [j1 31 1 (by decide) (by decide) (by decide)]; exact h31) (p := Int32.ofNat k) hp d (w := 2) (by decide)
          rw [ck] at w1
          rw [w1, bd2_eq]
          refine put E1 _ w2 ?_
          unfold PRv
          rw [if_pos ⟨hk', g2⟩]
          exact oN_eq (pz_t val C d k).1
        · rw [if_neg g2]
          exact put E _ (fun _ _ _ _ => rfl) (none0 (fun z => g2 z.2))) NN (C, 0) ⟨fun _ _ _ _ _ => rfl, 0, by omega, rfl, fun p hp => absurd hp (Nat.not_lt_zero _)⟩ (by have := NN_big; show 8 - _ < NN; omega)
  rw [e1]
  exact ⟨E, rfl, e2, e3⟩
/-- a set of panes that one may take -/
def OkS (C : wg_C) (np : Nat) (d : Int32) (t : Nat) : Prop := ∀ p, p < 8 → bt t p = true → p < np ∧ avP C d p
theorem s8_together {C E : wg_C} {np : Nat} {val : Int32 → Int32 → Int32 → Int32 → Int32 → Int32 → Int32 → Int32} {d : Int32} (hE : ∀ p, p < 8 → E 43 p = PRv val C np d p) {t : Nat} (ht : t < 256) : ∃ v, f_X8_priceTogether NN E (Int32.ofNat (revN t)) = some v ∧ ((OkS C np d t ∧ v = Int32.ofNat (prS (pzV val C d) t 8)) ∨ ((¬ OkS C np d t) ∧ v = -1)) := by
  unfold f_X8_priceTogether
  have hpz : ∀ p, pzV val C d p ≤ 99 := fun p => (pz_t val C d p).2
  obtain ⟨r, e1, e2⟩ := lp_ok (b := fun (q : Int32 × Int32) => f_X8_priceTogether_l4 NN E (Int32.ofNat (revN t)) q.1 q.2) (fun q => ∃ k, k ≤ 8 ∧ q.2 = Int32.ofNat k ∧ q.1 = Int32.ofNat (prS (pzV val C d) t k) ∧ ∀ p, p < k → bt t p = true → p < np ∧ avP C d p) (fun q => 8 - q.2.toInt.toNat) (fun r => (OkS C np d t ∧ ∃ z, r = .inl (Int32.ofNat (prS (pzV val C d) t 8), z)) ∨ ((¬ OkS C np d t) ∧ r = .inr (-1))) (by
    rintro ⟨v, z⟩ ⟨k, hk, e, e', j⟩
    simp only at e e'
    subst e e'
    have g0 : (8 : Int32) ≤ Int32.ofNat k ↔ 8 ≤ k := oN_le (show k < 2147483648 by omega) (show 8 < 2147483648 by omega)
    simp only [f_X8_priceTogether_l4, g0, lt_eq]
    by_cases g : 8 ≤ k
    · right
      rw [if_pos g]
      have : k = 8 := by omega
      subst this
      exact ⟨_, rfl, Or.inl ⟨j, _, rfl⟩⟩
    · rw [if_neg g]
      have hμ : 8 - (Int32.ofNat k + 1).toInt.toNat < 8 - (Int32.ofNat k).toInt.toNat := by
        rw [oN_s, oN_t (by omega), oN_t (by omega)]
        omega
      have hh : f_X8_holds (Int32.ofNat (revN t)) (Int32.ofNat k) = some (bI (bt t k = true)) := by
        unfold f_X8_holds bI
        have := (vf2 ht (show k < 8 by omega)).1
        by_cases q : bt t k = true
        · rw [if_pos (this.mpr q), if_pos q]
        · rw [if_neg (fun z => q (this.mp z)), if_neg q]
      rw [hh, bd_eq, if_bI, ck_pos (oN_inb (show k < 8 by omega) (by decide)), ck_pos (oN_inb (show k < 8 by omega) (by decide)), oN_cl (show k < 2147483648 by omega), hE k (by omega)]
      by_cases g1 : bt t k = true
      · rw [if_pos g1]
        unfold PRv
        by_cases g2 : k < np ∧ passP C (4 + k) d 0 = true
        · left
          rw [if_pos g2]
          have p1 := prS_le hpz t k
          have p2 := hpz k
          have hne : ¬ Int32.ofNat (pzV val C d k) = -1 := by
            rw [i_eq, oN_t (by omega)]
            show ¬ ((pzV val C d k : Nat) : Int) = -1
            omega
          rw [if_neg hne]
          refine ⟨_, rfl, ⟨k + 1, by omega, oN_s k, ?_, fun p hp hb => ?_⟩, hμ⟩
          · show Int32.ofNat (prS (pzV val C d) t k) + Int32.ofNat (pzV val C d k) = Int32.ofNat (prS (pzV val C d) t k + if bt t k = true then pzV val C d k else 0)
            rw [if_pos g1]
            exact (Int32.ofNat_add _ _).symm
          · by_cases e : p = k
            · rw [e]; exact g2
            · exact j p (by omega) hb
        · right
          rw [if_neg g2, if_pos rfl]
          exact ⟨_, rfl, Or.inr ⟨fun z => g2 (z k (by omega) g1), rfl⟩⟩
      · left
        rw [if_neg g1]
        refine ⟨_, rfl, ⟨k + 1, by omega, oN_s k, ?_, fun p hp hb => ?_⟩, hμ⟩
        · show Int32.ofNat (prS (pzV val C d) t k) = Int32.ofNat (prS (pzV val C d) t k + if bt t k = true then pzV val C d k else 0)
          rw [if_neg g1, Nat.add_zero]
        · by_cases e : p = k
          · rw [e] at hb; exact absurd hb g1
          · exact j p (by omega) hb) NN (0, 0) ⟨0, by omega, rfl, rfl, fun p hp => absurd hp (Nat.not_lt_zero _)⟩ (by have := NN_big; show 8 - _ < NN; omega)
  rw [e1]
  rcases e2 with ⟨a, z, rfl⟩ | ⟨a, rfl⟩
  · exact ⟨_, rfl, Or.inl ⟨a, rfl⟩⟩
  · exact ⟨_, rfl, Or.inr ⟨a, rfl⟩⟩
def Vd (C : wg_C) (np : Nat) (d : Int32) (n S : Nat) : Prop := pcN S = n ∧ OkS C np d (revN S)
theorem s8_best {SS : wg_Sh} {C E : wg_C} {np : Nat} {val : Int32 → Int32 → Int32 → Int32 → Int32 → Int32 → Int32 → Int32} {d w : Int32} (hE : ∀ p, p < 8 → E 43 p = PRv val C np d p) {n : Nat} (hn : n ≤ 4) : ∃ q : Int32 × Int32 × Int32, lp (fun (q : Int32 × Int32 × Int32) => f_X8_views_l44 NN SS E (Int32.ofNat n) w q.1 q.2.1 q.2.2) NN ((-1 : Int32), (0 : Int32), (255 : Int32)) = some q ∧ ((q.1 = -1 ∧ ∀ S, S < 256 → ¬ Vd C np d n S) ∨ ∃ S0, S0 < 256 ∧ Vd C np d n S0 ∧ q.1 = Int32.ofNat (prS (pzV val C d) (revN S0) 8) ∧ q.2.1 = Int32.ofNat S0 ∧ ∀ S, S < 256 → Vd C np d n S → prS (pzV val C d) (revN S) 8 < prS (pzV val C d) (revN S0) 8 ∨ (prS (pzV val C d) (revN S) 8 = prS (pzV val C d) (revN S0) 8 ∧ S ≤ S0)) := by
  have hpz : ∀ p, pzV val C d p ≤ 99 := fun p => (pz_t val C d p).2
  refine lp_ok (fun q => ∃ m : Nat, m ≤ 256 ∧ q.2.2.toInt = (m : Int) - 1 ∧ ((q.1 = -1 ∧ ∀ S, m ≤ S → S < 256 → ¬ Vd C np d n S) ∨ ∃ S0, m ≤ S0 ∧ S0 < 256 ∧ Vd C np d n S0 ∧ q.1 = Int32.ofNat (prS (pzV val C d) (revN S0) 8) ∧ q.2.1 = Int32.ofNat S0 ∧ ∀ S, m ≤ S → S < 256 → Vd C np d n S → prS (pzV val C d) (revN S) 8 < prS (pzV val C d) (revN S0) 8 ∨ (prS (pzV val C d) (revN S) 8 = prS (pzV val C d) (revN S0) 8 ∧ S ≤ S0))) (fun q => (q.2.2.toInt + 1).toNat) _ ?_ NN (-1, 0, 255) ⟨256, by omega, rfl, Or.inl ⟨rfl, fun S h1 h2 => by omega⟩⟩ (by have := NN_big; show ((255 : Int32).toInt + 1).toNat < NN; rw [show (255 : Int32).toInt = 255 from rfl]; show 256 < NN; omega)
  rintro ⟨b, s, x⟩ ⟨m, hm, e, j⟩
  simp only at e j
  have g0 : x < 0 ↔ m = 0 := by
    rw [i_lt, e, Int32.toInt_zero]
    omega
  simp only [f_X8_views_l44, g0]
  by_cases g : m = 0
  · right
    rw [if_pos g]
    subst g
    refine ⟨_, rfl, ?_⟩
    rcases j with ⟨a1, a2⟩ | ⟨S0, a0, a1, a2, a3, a4, a5⟩
    · exact Or.inl ⟨a1, fun S hS => a2 S (Nat.zero_le _) hS⟩
    · exact Or.inr ⟨S0, a1, a2, a3, a4, fun S hS => a5 S (Nat.zero_le _) hS⟩
  · left
    rw [if_neg g]
    obtain ⟨k, rfl⟩ : ∃ k, m = k + 1 := ⟨m - 1, by omega⟩
    have ex : x = Int32.ofNat k := oN_eq (by omega)
    subst ex
    obtain ⟨r1, r2, r3, r4⟩ := vf1 (show k < 256 by omega)
    have hx : (Int32.ofNat k + -1).toInt = (k : Int) - 1 := by
      rw [i_add, oN_t (by omega), show (-1 : Int32).toInt = -1 from rfl]
      omega
    have hμ : ((Int32.ofNat k + -1).toInt + 1).toNat < ((Int32.ofNat k).toInt + 1).toNat := by
      rw [hx, oN_t (by omega)]
      omega
    rw [s8_pop, bd_eq, r3]
    -- what a price does
    have step : ∀ v : Int32, ((Vd C np d n k ∧ v = Int32.ofNat (prS (pzV val C d) (revN k) 8)) ∨ ((¬ Vd C np d n k) ∧ v = -1)) → ∃ y, f_X8_views_j68l44 NN SS E (Int32.ofNat n) w b s (Int32.ofNat k) v = some (.inl y) ∧ (∃ m : Nat, m ≤ 256 ∧ y.2.2.toInt = (m : Int) - 1 ∧ ((y.1 = -1 ∧ ∀ S, m ≤ S → S < 256 → ¬ Vd C np d n S) ∨ ∃ S0, m ≤ S0 ∧ S0 < 256 ∧ Vd C np d n S0 ∧ y.1 = Int32.ofNat (prS (pzV val C d) (revN S0) 8) ∧ y.2.1 = Int32.ofNat S0 ∧ ∀ S, m ≤ S → S < 256 → Vd C np d n S → prS (pzV val C d) (revN S) 8 < prS (pzV val C d) (revN S0) 8 ∨ (prS (pzV val C d) (revN S) 8 = prS (pzV val C d) (revN S0) 8 ∧ S ≤ S0))) ∧ (y.2.2.toInt + 1).toNat < ((Int32.ofNat k).toInt + 1).toNat := fun v hv => by
      unfold f_X8_views_j68l44
      have pk := prS_le hpz (revN k) 8
      rcases hv with ⟨hv, rfl⟩ | ⟨hv, rfl⟩
      · rcases j with ⟨rfl, a2⟩ | ⟨S0, a0, a1, a2, rfl, rfl, a5⟩
        · have hno : ¬ Int32.ofNat (prS (pzV val C d) (revN k) 8) ≤ -1 := by
            rw [i_le, oN_t (by omega), show (-1 : Int32).toInt = -1 from rfl]
            omega
          rw [if_neg hno]
          refine ⟨_, rfl, ⟨k, by omega, hx, Or.inr ⟨k, Nat.le_refl _, by omega, hv, rfl, rfl, fun S h1 h2 h3 => ?_⟩⟩, hμ⟩
          by_cases e : S = k
          · subst e; exact Or.inr ⟨rfl, Nat.le_refl _⟩
          · exact absurd h3 (a2 S (by omega) h2)
        · have p0 := prS_le hpz (revN S0) 8
          have c1 : Int32.ofNat (prS (pzV val C d) (revN k) 8) ≤ Int32.ofNat (prS (pzV val C d) (revN S0) 8) ↔ prS (pzV val C d) (revN k) 8 ≤ prS (pzV val C d) (revN S0) 8 := oN_le (by omega) (by omega)
          by_cases g1 : prS (pzV val C d) (revN k) 8 ≤ prS (pzV val C d) (revN S0) 8
          · rw [if_pos (c1.mpr g1)]
            refine ⟨_, rfl, ⟨k, by omega, hx, Or.inr ⟨S0, by omega, a1, a2, rfl, rfl, fun S h1 h2 h3 => ?_⟩⟩, hμ⟩
            by_cases e : S = k
            · subst e; omega
            · exact a5 S (by omega) h2 h3
          · rw [if_neg (fun z => g1 (c1.mp z))]
            refine ⟨_, rfl, ⟨k, by omega, hx, Or.inr ⟨k, Nat.le_refl _, by omega, hv, rfl, rfl, fun S h1 h2 h3 => ?_⟩⟩, hμ⟩
            by_cases e : S = k
            · subst e; exact Or.inr ⟨rfl, Nat.le_refl _⟩
            · have := a5 S (by omega) h2 h3
              omega
      · have hle : (-1 : Int32) ≤ b := by
          rcases j with ⟨rfl, a2⟩ | ⟨S0, a0, a1, a2, rfl, rfl, a5⟩
          · decide
          · have p0 := prS_le hpz (revN S0) 8
            rw [i_le, oN_t (by omega), show (-1 : Int32).toInt = -1 from rfl]
            omega
        rw [if_pos hle]
        refine ⟨_, rfl, ⟨k, by omega, hx, ?_⟩, hμ⟩
        rcases j with ⟨a1, a2⟩ | ⟨S0, a0, a1, a2, a3, a4, a5⟩
        · refine Or.inl ⟨a1, fun S h1 h2 h3 => ?_⟩
          by_cases e : S = k
          · subst e; exact hv h3
          · exact a2 S (by omega) h2 h3
        · refine Or.inr ⟨S0, by omega, a1, a2, a3, a4, fun S h1 h2 h3 => ?_⟩
          by_cases e : S = k
          · subst e; exact absurd h3 hv
          · exact a5 S (by omega) h2 h3
    have pc8 := pcN_le k
    have c0 : Int32.ofNat (pcN k) = Int32.ofNat n ↔ pcN k = n := by
      rw [i_eq, oN_t (by omega), oN_t (by omega)]
      omega
    by_cases g1 : pcN k = n
    · rw [if_pos (c0.mpr g1)]
      obtain ⟨v, v1, v2⟩ := s8_together hE r1
      rw [r2] at v1
      rw [v1, bd_eq]
      refine step v ?_
      rcases v2 with ⟨a, b⟩ | ⟨a, b⟩
      · exact Or.inl ⟨⟨g1, a⟩, b⟩
      · exact Or.inr ⟨fun z => a z.2, b⟩
    · rw [if_neg (fun z => g1 (c0.mp z))]
      exact step (-1) (Or.inr ⟨fun z => g1 z.1, rfl⟩)
theorem s8_digits {t : Nat} (ht : t < 256) : f_X8_digitsOf NN (Int32.ofNat t) = some (Int32.ofNat (dgR (revN t) 8)) := by
  obtain ⟨r1, r2, r3, r4⟩ := vf1 ht
  have h := vF6 (revN t) r1
  rw [r2] at h
  obtain ⟨k, hk⟩ := NN_split 20 (by decide)
  unfold f_X8_digitsOf
  rw [show (fun q : Int32 × Int32 => f_X8_digitsOf_l4 NN (Int32.ofNat t) q.1 q.2) = (fun q => f_X8_digitsOf_l4 20 (Int32.ofNat t) q.1 q.2) from rfl, hk, lpN 20 h k]
  rfl
theorem prS_0 (pz : Nat → Nat) : ∀ k, prS pz 0 k = 0
  | 0 => rfl
  | k + 1 => by
    unfold prS
    rw [prS_0 pz k, if_neg (by unfold bt; simp)]
theorem h_views : H_views wInv := by
  intro S C M h hw d nn w
  obtain ⟨np, nt, t, id', val, f1, f2, f3, f4, f5, f6, f7, f8, f9⟩ := h.fl
  have h8 := f1.1
  have hno : ∃ (r : Int32) (C1 : wg_C) (M1 : wg_M), (some (-2, C) : Option (Int32 × wg_C)) = some (r, C1) ∧ (some (-2, M) : Option (Int32 × wg_M)) = some (r, M1) ∧ wInv S C1 M1 := ⟨_, _, _, rfl, rfl, h⟩
  unfold f_X8_views f_X9_views
  rw [show f_X9_in w.toInt64 0 1 = some (bI (rg 2 w = true)) from s_inr w 1 2 rfl, s_inr nn 4 5 rfl]
  simp only [s8_isDay, s9_isDay, bd_eq, if_bI]
  by_cases g1 : rg 32 d = true
  case neg => rw [if_neg g1, if_neg g1]; exact hno
  rw [if_pos g1, if_pos g1]
  have qn := rg_iff 5 nn
  by_cases g2 : rg 5 nn = true
  case neg =>
    have qn : ¬ (0 ≤ nn.toInt ∧ nn.toInt < 5) := fun z => g2 (qn.mpr z)
    rw [if_neg g2]
    by_cases y : nn < 0
    · rw [if_pos y]; exact hno
    · rw [if_neg y, if_pos (by rw [i_lt, Int32.toInt_zero] at y; rw [i_lt, show (4 : Int32).toInt = 4 from rfl]; omega)]; exact hno
  have qn := qn.mp g2
  rw [if_pos g2, if_neg (by rw [i_lt, Int32.toInt_zero]; omega), if_neg (by rw [i_lt, show (4 : Int32).toInt = 4 from rfl]; omega)]
  have qw := rg_iff 2 w
  by_cases g4 : rg 2 w = true
  case neg =>
    have qw : ¬ (0 ≤ w.toInt ∧ w.toInt < 2) := fun z => g4 (qw.mpr z)
    rw [if_neg g4]
    by_cases y : w < 0
    · rw [if_pos y]; exact hno
    · rw [if_neg y, if_neg (by rw [i_lt, Int32.toInt_zero] at y; rw [i_le, Int32.toInt_one]; omega)]; exact hno
  have qw := qw.mp g4
  rw [if_pos g4, if_neg (by rw [i_lt, Int32.toInt_zero]; omega), if_pos (by rw [i_le, Int32.toInt_one]; omega)]
  obtain ⟨n, hn, rfl⟩ := rg_oN g2
  obtain ⟨E, e1, e2, e3⟩ := s8_prices f1 f4 f5 f7 f8 f9 d
  obtain ⟨⟨b, s, x⟩, b1, b2⟩ := s8_best (SS := S) (w := w) e3 (n := n) (by omega)
  have hM1 : vwM M (wg_sM (wg_sM M 55 33 (-1)) 55 34 (-1)) := fun a k q => by
    by_cases y : a = 55
    · subst y
      rw [sM_k _ _ (by omega), sM_k _ _ (by omega)]
    · rw [sM_r _ _ _ _ y, sM_r _ _ _ _ y]
  have h33 : (wg_sM (wg_sM M 55 33 (-1)) 55 34 (-1)).1 55 33 = -1 := by rw [sM_k _ _ (by decide), sM_s]
  have h34 : (wg_sM (wg_sM M 55 33 (-1)) 55 34 (-1)).1 55 34 = -1 := sM_s _ _ _ _
  obtain ⟨M2, m1, m2, m3, m4⟩ := s9_vf f1 f4 f6 d n 8 (by omega) (by omega) _ 0 0 hM1 (by decide) (by have : 10 ^ n ≤ 10 ^ 4 := Nat.pow_le_pow_right (by decide) (by omega); omega) (by rw [h33]; decide)
  rw [prS_0] at m1
  rw [h33, h34] at m4
  simp only [lt_eq]
  unfold f_X9_viewsFrom_e
  rw [e1, bd_eq, b1, bd3_eq, show f_X9v NN 8 0 (wg_sM (wg_sM M 55 33 (-1)) 55 34 (-1)) (Int32.ofNat n) 0 0 0 d = some M2 from m1, bd_eq]
  have hI : wInv S E M2 := h.keep (fun a k q => e2 a k (by unfold pC at q; omega) (by unfold pC at q; omega) (by unfold pC at q; omega)) (fun a k q => m2 a k (by unfold pM at q; omega))
  -- a set is a way
  have hA : ∀ U, U < 256 → Vd C np d n U → LfA np (avP C d) n 0 0 (revN U) (dgR (revN U) 8) := fun U hU hV => by
    obtain ⟨r1, r2, r3, r4⟩ := vf1 hU
    have := vF8 (revN U) r1
    rw [r4, hV.1] at this
    exact LfA.ex hV.2 n 0 0 (this.resolve_left (by omega))
  simp only at b2
  rcases m4 with ⟨⟨k1, k2⟩, k3⟩ | ⟨t1, d1, k1, k2, k3, k4, k5⟩
  · have hb : b = -1 := by
      rcases b2 with ⟨a1, a2⟩ | ⟨S0, a1, a2, a3⟩
      · exact a1
      · have := k3 _ _ (hA S0 a1 a2)
        have e : (-1 : Int32).toInt = -1 := rfl
        rw [e] at this
        omega
    rw [hb, k1, k2]
    by_cases y : w = 0
    · rw [if_pos y, if_pos y]
      exact ⟨_, _, _, rfl, rfl, hI⟩
    · rw [if_neg y, if_neg y, if_pos rfl]
      exact ⟨_, _, _, rfl, rfl, hI⟩
  · obtain ⟨ht1, hok⟩ := LfA.av h8 n 0 0 t1 d1 (by decide) (fun p hp hb => by unfold bt at hb; simp at hb) k1
    have h7 := LfA.all h8 n 0 0 t1 d1 (vF7 n (by omega)) k1
    simp only [Bool.and_eq_true, decide_eq_true_eq, beq_iff_eq] at h7
    obtain ⟨r1, r2, r3, r4⟩ := vf1 ht1
    have hV : Vd C np d n (revN t1) := ⟨by rw [r4]; exact h7.1, by rw [r2]; exact hok⟩
    rcases b2 with ⟨a1, a2⟩ | ⟨S0, a1, a2, a3, a4, a5⟩
    · exact absurd hV (a2 _ r1)
    · have q1 := a5 _ r1 hV
      rw [r2] at q1
      have q2 := k5 _ _ (hA S0 a1 a2)
      have hpr : prS (pzV val C d) (revN S0) 8 = prS (pzV val C d) t1 8 := by omega
      have hS : revN t1 = S0 := by
        by_cases z : revN t1 < S0
        · have q9 := vF9 S0 a1 (revN t1) z
          unfold vB9 at q9
          rw [r2, a2.1, r4, h7.1] at q9
          simp only [Bool.or_eq_true, Bool.not_eq_true', decide_eq_true_eq, beq_eq_false_iff_ne, ne_eq, not_true, false_or] at q9
          omega
        · omega
      have hS' : revN S0 = t1 := by rw [← hS, r2]
      have hdg : d1 = dgR t1 8 := by
        rw [hS'] at q2
        omega
      have hpl := prS_le (pz := pzV val C d) (fun p => (pz_t val C d p).2) t1 8
      have hne : ¬ Int32.ofNat (prS (pzV val C d) t1 8) = -1 := by
        rw [i_eq, oN_t (by omega)]
        show ¬ ((prS (pzV val C d) t1 8 : Nat) : Int) = -1
        omega
      rw [a3, a4, hS', k2, k3, hdg]
      by_cases y : w = 0
      · rw [if_pos y, if_pos y]
        exact ⟨_, _, _, rfl, rfl, hI⟩
      · rw [if_neg y, if_neg y, if_neg hne, s8_digits a1, hS', bd_eq]
        exact ⟨_, _, _, rfl, rfl, hI⟩
