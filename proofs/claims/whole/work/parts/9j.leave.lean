theorem lv_panes {S : wg_Sh} {np : Nat} {C : wg_C} {M : wg_M} {s0 : Nat} {o : Int32} (h : IHo np C M) (ho : rg 3 o = true) (blk : Nat → Bool) (hblk : ∀ p, p < 8 → blk p = false) : LvC (GP C np o blk) (fun _ _ => 1) s0 1000 C (fun D r => f_X7_leave NN S D r o) := by
  intro C1 x hx h1 hr
  have h8 := h.1
  obtain ⟨e1, e2⟩ := oN_32 hx
  have hpn : ∀ (D : wg_C), flG C D → D 1 2 = Int32.ofNat np := fun D hD => by rw [hD.vw.1 1 2 (Or.inl rfl)]; exact oN_eq h.2.1
  -- the panes, from any state that is right
  have pan : ∀ D, DjI (GP C np o blk) (fun _ _ => 1) s0 1000 1000000000 C D → (∀ k, D 38 k = C1 38 k) → (∀ y, y < 192 → FoR (D 37) y ≤ FoR (C1 37) y ∧ (FoR (D 37) y = FoR (C1 37) y ∨ FoR (C1 37) x < FoR (D 37) y)) → ((x % 32 + 1 < 32) → FoR (D 37) (x + 1) ≤ FoR (C1 37) x + 1) → ∃ C2, f_X7_leave_j36 NN S D (Int32.ofNat x) o (Int32.ofNat (x / 32)) (Int32.ofNat (x % 32)) = some C2 ∧ DjI (GP C np o blk) (fun _ _ => 1) s0 1000 1000000000 C C2 ∧ (∀ k, C2 38 k = C1 38 k) ∧ (∀ y, y < 192 → FoR (C2 37) y ≤ FoR (C1 37) y ∧ (FoR (C2 37) y = FoR (C1 37) y ∨ FoR (C1 37) x < FoR (C2 37) y)) ∧ ClsX (GP C np o blk) (fun _ _ => 1) 1000 (FoR (C2 37)) x := by
    intro D d1 d2 d3 d4
    unfold f_X7_leave_j36
    obtain ⟨⟨C2, z⟩, u1, u2, u3, u4, u5, u6⟩ := lp_ok (b := fun (q : wg_C × Int32) => f_X7_leave_l39 NN S (Int32.ofNat x) o (Int32.ofNat (x / 32)) (Int32.ofNat (x % 32)) q.1 q.2) (fun q => DjI (GP C np o blk) (fun _ _ => 1) s0 1000 1000000000 C q.1 ∧ (∀ k, q.1 38 k = C1 38 k) ∧ (∀ y, y < 192 → FoR (q.1 37) y ≤ FoR (C1 37) y ∧ (FoR (q.1 37) y = FoR (C1 37) y ∨ FoR (C1 37) x < FoR (q.1 37) y)) ∧ ((x % 32 + 1 < 32) → FoR (q.1 37) (x + 1) ≤ FoR (C1 37) x + 1) ∧ ∃ k, k ≤ np ∧ q.2 = Int32.ofNat k ∧ ∀ p y, p < k → GP C np o blk p x y → FoR (q.1 37) y ≤ FoR (C1 37) x + 1000 * 1) (fun q => np - q.2.toInt.toNat) (fun q => DjI (GP C np o blk) (fun _ _ => 1) s0 1000 1000000000 C q.1 ∧ (∀ k, q.1 38 k = C1 38 k) ∧ (∀ y, y < 192 → FoR (q.1 37) y ≤ FoR (C1 37) y ∧ (FoR (q.1 37) y = FoR (C1 37) y ∨ FoR (C1 37) x < FoR (q.1 37) y)) ∧ ((x % 32 + 1 < 32) → FoR (q.1 37) (x + 1) ≤ FoR (C1 37) x + 1) ∧ ∀ p y, p < np → GP C np o blk p x y → FoR (q.1 37) y ≤ FoR (C1 37) x + 1000 * 1) (by
      rintro ⟨E, z⟩ ⟨j1, j2, j3, j4, k, hk, e3, j5⟩
      simp only at j1 j2 j3 j4 e3 j5
      subst e3
      have hμ : ¬ np ≤ k → np - (Int32.ofNat k + 1).toInt.toNat < np - (Int32.ofNat k).toInt.toNat := fun _ => by
        rw [oN_s, oN_t (by omega), oN_t (by omega)]
        omega
      have hv := j1.1.vw
      simp only [f_X7_leave_l39, hpn E j1.1, oN_le (show k < 2147483648 by omega) (show np < 2147483648 by omega), lt_eq]
      by_cases g : np ≤ k
      · right
        rw [if_pos g]
        have : k = np := by omega
        subst this
        exact ⟨_, rfl, j1, j2, j3, j4, j5⟩
      · left
        have hk' : k < np := by omega
        have hp : rg np (Int32.ofNat k) = true := oN_rg hk' (by omega)
        have ck : (Int32.ofNat k).toNatClampNeg = k := oN_cl (by omega)
        have fx : FoR (E 37) x = FoR (C1 37) x := by
          rcases j3 x hx with ⟨a1, a2 | a2⟩
          · exact a2
          · omega
        rw [if_neg g, ck_pos (oN_inb (show k < 8 by omega) (by decide)), ck]
        have hB : ∀ j, E (4 + k) j = C (4 + k) j := fun j => hv.1 _ j (Or.inr (by omega))
        have skip : (∀ y, ¬ GP C np o blk k x y) → ∃ y, (some (Sum.inl (E, Int32.ofNat k + 1)) : Option ((wg_C × Int32) ⊕ (wg_C × Int32))) = some (.inl y) ∧ (DjI (GP C np o blk) (fun _ _ => 1) s0 1000 1000000000 C y.1 ∧ (∀ k, y.1 38 k = C1 38 k) ∧ (∀ z, z < 192 → FoR (y.1 37) z ≤ FoR (C1 37) z ∧ (FoR (y.1 37) z = FoR (C1 37) z ∨ FoR (C1 37) x < FoR (y.1 37) z)) ∧ ((x % 32 + 1 < 32) → FoR (y.1 37) (x + 1) ≤ FoR (C1 37) x + 1) ∧ ∃ k, k ≤ np ∧ y.2 = Int32.ofNat k ∧ ∀ p z, p < k → GP C np o blk p x z → FoR (y.1 37) z ≤ FoR (C1 37) x + 1000 * 1) ∧ np - y.2.toInt.toNat < np - (Int32.ofNat k).toInt.toNat := fun hno => by
          refine ⟨_, rfl, ⟨j1, j2, j3, j4, k + 1, by omega, oN_s k, fun p z hp hz => ?_⟩, hμ g⟩
          by_cases e : p = k
          · subst e; exact absurd hz (hno z)
          · exact j5 p z (by omega) hz
        have hpass : f_X1_passes E (4 + k) (Int32.ofNat (x % 32)) o = some (bI (passP C (4 + k) (Int32.ofNat (x % 32)) o = true)) := by
          rw [s8_passes E _ _ _ (by rw [hB]; have := h.pn hp; rw [ck] at this; exact this), hB, hB, hB]
          rfl
        simp only [hB 4, hpass]
        by_cases g2 : C (4 + k) 4 = Int32.ofNat (x / 32)
        · rw [if_pos g2, bd_eq, if_bI]
          by_cases g3 : passP C (4 + k) (Int32.ofNat (x % 32)) o = true
          · rw [if_pos g3]
            obtain ⟨y1, y2, y3⟩ := gp_y h hk' (pass_on g3)
            have hP : GP C np o blk k x (32 * (leadP C (4 + k)).toNatClampNeg + (onP C (4 + k) (Int32.ofNat (x % 32))).toNatClampNeg) := ⟨hk', hblk k (by omega), by rw [g2, oN_t (by omega)], g3, rfl⟩
            generalize hyy : 32 * (leadP C (4 + k)).toNatClampNeg + (onP C (4 + k) (Int32.ofNat (x % 32))).toNatClampNeg = yy at y2 y3 hP
            clear y1
            have G1 := j1
            have G2 : FoR (E 37) = FoR (E 37) := rfl
            have G3 : ∀ j, E 38 j = E 38 j := fun _ => rfl
            have hst : (1000 : Int32).toInt = ((1000 * 1 : Nat) : Int) := rfl
            have hst1 : 1 ≤ 1000 * 1 := by decide
            have hv' := G1.1.vw
            have hB' : ∀ j, E (4 + k) j = C (4 + k) j := fun j => hv'.1 _ j (Or.inr (by omega))
            have hl : leadP E (4 + k) = leadP C (4 + k) := by unfold leadP; rw [hB', hB', hB']
            have hon : onP E (4 + k) (Int32.ofNat (x % 32)) = onP C (4 + k) (Int32.ofNat (x % 32)) := by unfold onP; rw [hB', hB', hB']
            unfold f_X7_leave_j106l39
            rw [p8_leads, bd_eq, p8_on, bd_eq, hl, hon, y2, ck_pos (oN_inb hx (by decide)), oN_cl (show x < 2147483648 by omega)]
            have bx := G1.2.1 x hx
            have byy := G1.2.1 yy y3
            have fx' : (E 37 x).toInt = (FoR (E 37) x : Nat) := by unfold FoR; omega
            have eu : (E 37 x + (1000 : Int32)).toInt = ((FoR (E 37) x + 1000 * 1 : Nat) : Int) := i_addN fx' hst (by clear j3 j4 j5 d3 d4; omega)
            have eu' : (E 37 x + (1000 : Int32)).toInt.toNat = FoR (E 37) x + 1000 * 1 := by rw [eu]; exact Int.toNat_natCast _
            rw [s8_shorten E y3 _ (by rw [eu]; exact Int.natCast_nonneg _) byy.1, eu', bd_eq, lt_eq]
            rw [G2, fx]
            by_cases g4 : FoR (C1 37) x + 1000 * 1 < FoR (E 37) yy
            · rw [if_pos g4]
              have up := FoR_upC E yy (E 37 x + (1000 : Int32))
              rw [eu', G2, fx] at up
              refine ⟨_, rfl, ⟨⟨fun a j q1 q2 q3 q4 => ?_, G1.2.1.upC (by rw [eu]; exact Int.natCast_nonneg _) ?_, ?_⟩, fun j => ?_, fun y hy => ?_, fun hd => ?_, k + 1, by omega, oN_s k, fun p z hp hz => ?_⟩, hμ g⟩
              · exact (up_r _ _ _ _ q3).trans (G1.1 a j q1 q2 q3 q4)
              · rw [eu, G2, fx]
                have := j1.2.1 yy y3
                unfold FoR at g4 ⊢
                clear j3 j4 j5 d3 d4
                omega
              · show Ach _ _ _ _ _ (FoR (wg_up E 37 yy (E 37 x + (1000 : Int32)) 37))
                rw [up, ← fx]
                rw [← fx] at g4
                exact j1.2.2.pane hx (by rw [fx]; exact hr) hP g4
              · show wg_up E 37 yy (E 37 x + (1000 : Int32)) 38 j = C1 38 j; rw [up_r _ _ _ _ (by decide)]; exact (G3 j).trans (j2 j)
              · show FoR (wg_up E 37 yy (E 37 x + (1000 : Int32)) 37) y ≤ _ ∧ (FoR (wg_up E 37 yy (E 37 x + (1000 : Int32)) 37) y = _ ∨ _ < FoR (wg_up E 37 yy (E 37 x + (1000 : Int32)) 37) y)
                rw [up]
                by_cases e : y = yy
                · subst e
                  rw [upN_s]
                  have := (j3 y hy).1
                  have hw1 : 1 ≤ 1000 * 1 := hst1
                  exact ⟨by omega, Or.inr (by omega)⟩
                · rw [upN_k _ _ e]
                  exact j3 y hy
              · show FoR (wg_up E 37 yy (E 37 x + (1000 : Int32)) 37) (x + 1) ≤ _
                rw [up]
                have := j4 hd
                by_cases e : x + 1 = yy
                · rw [e, upN_s]
                  rw [← e] at g4
                  omega
                · rw [upN_k _ _ e]
                  exact this
              · show FoR (wg_up E 37 yy (E 37 x + (1000 : Int32)) 37) z ≤ _
                rw [up]
                by_cases e : p = k
                · subst e
                  have : z = yy := by rw [hz.2.2.2.2]; exact hyy
                  rw [this, upN_s]
                  exact Nat.le_refl _
                · have := j5 p z (by omega) hz
                  by_cases e : z = yy
                  · rw [e, upN_s]
                    rw [e] at this
                    omega
                  · rw [upN_k _ _ e]
                    exact this
            · rw [if_neg g4]
              refine ⟨_, rfl, ⟨G1, fun j => (G3 j).trans (j2 j), fun y hy => ?_, fun hd => ?_, k + 1, by omega, oN_s k, fun p z hp hz => ?_⟩, hμ g⟩
              · show FoR (E 37) y ≤ _ ∧ (FoR (E 37) y = _ ∨ _ < FoR (E 37) y)
                rw [G2]; exact j3 y hy
              · show FoR (E 37) (x + 1) ≤ _
                rw [G2]; exact j4 hd
              · show FoR (E 37) z ≤ _
                rw [G2]
                by_cases e : p = k
                · subst e
                  have : z = yy := by rw [hz.2.2.2.2]; exact hyy
                  rw [this]
                  omega
                · exact j5 p z (by omega) hz
          · rw [if_neg g3]
            exact skip (fun y z => g3 z.2.2.2.1)
        · rw [if_neg g2]
          exact skip (fun y z => g2 ((i_eq _ _).mpr (by rw [z.2.2.1, oN_t (by omega)])))) NN (D, 0) ⟨d1, d2, d3, d4, 0, by omega, rfl, fun p y hp => absurd hp (Nat.not_lt_zero _)⟩ (by have := NN_big; show np - _ < NN; omega)
    rw [u1, bd2_eq]
    simp only at u2 u3 u4 u5 u6
    have fx : FoR (C2 37) x = FoR (C1 37) x := by
      rcases u4 x hx with ⟨a1, a2 | a2⟩
      · exact a2
      · omega
    exact ⟨C2, rfl, u2, u3, u4, fun hd => by rw [fx]; exact u5 hd, fun p y hp => by rw [fx]; exact u6 p y hp.1 hp⟩
  unfold f_X7_leave
  simp only [lt_eq, e2]
  rw [e1]
  have g0 : (32 : Int32) ≤ Int32.ofNat (x % 32) + 1 ↔ ¬ x % 32 + 1 < 32 := by
    rw [oN_s, i_le, oN_t (by omega), show (32 : Int32).toInt = 32 from rfl]
    omega
  by_cases g : x % 32 + 1 < 32
  · rw [if_neg (fun z => g0.mp z g), ck_pos (oN_inb hx (by decide)), oN_s, oN_cl (show x < 2147483648 by omega)]
    have hx1 : x + 1 < 192 := by omega
    have bx := h1.2.1 x hx
    have bx1 := h1.2.1 (x + 1) hx1
    have fx : (C1 37 x).toInt = (FoR (C1 37) x : Nat) := by unfold FoR; omega
    have eu : (C1 37 x + 1).toInt = ((FoR (C1 37) x + 1 : Nat) : Int) := i_addN fx rfl (by omega)
    have eu' : (C1 37 x + 1).toInt.toNat = FoR (C1 37) x + 1 := by rw [eu]; exact Int.toNat_natCast _
    rw [s8_shorten C1 hx1 _ (by rw [eu]; exact Int.natCast_nonneg _) bx1.1, eu', bd_eq]
    by_cases g4 : FoR (C1 37) x + 1 < FoR (C1 37) (x + 1)
    · rw [if_pos g4]
      have up := FoR_upC C1 (x + 1) (C1 37 x + 1)
      rw [eu'] at up
      refine pan _ ⟨fun a j q1 q2 q3 q4 => (up_r _ _ _ _ q3).trans (h1.1 a j q1 q2 q3 q4), h1.2.1.upC (by rw [eu]; exact Int.natCast_nonneg _) (by rw [eu]; unfold FoR at *; omega), by rw [up]; exact h1.2.2.wait hx hr g g4⟩ (fun j => up_r _ _ _ _ (by decide)) (fun y hy => ?_) (fun _ => ?_)
      · rw [up]
        by_cases e : y = x + 1
        · subst e
          rw [upN_s]
          exact ⟨by omega, Or.inr (by omega)⟩
        · rw [upN_k _ _ e]
          exact ⟨Nat.le_refl _, Or.inl rfl⟩
      · rw [up, upN_s]
        exact Nat.le_refl _
    · rw [if_neg g4]
      exact pan C1 h1 (fun _ => rfl) (fun y hy => ⟨Nat.le_refl _, Or.inl rfl⟩) (fun _ => by omega)
  · rw [if_pos (g0.mpr g)]
    exact pan C1 h1 (fun _ => rfl) (fun y hy => ⟨Nat.le_refl _, Or.inl rfl⟩) (fun z => absurd z g)
theorem lv_cost {S : wg_Sh} {t id nt : Nat} {val : Int32 → Int32 → Int32 → Int32 → Int32 → Int32 → Int32 → Int32} {np : Nat} {C : wg_C} {M : wg_M} {s0 : Nat} {o : Int32} (h : IHo np C M) (ho : rg 3 o = true) (blk : Nat → Bool) (hblk : ∀ p, p < 8 → blk p = false) (ht : TxI S C M t id val) (ht1 : (C 1 3).toInt = t) (hnt : t < nt) (hnt6 : nt ≤ 6) (h31 : (C 31 1).toInt = nt) : LvC (GP C np o blk) (wC val C) s0 1 C (fun D r => f_X7_leave_i1 NN S D r o) := by
  intro C1 x hx h1 hr
  have h8 := h.1
  obtain ⟨e1, e2⟩ := oN_32 hx
  have hpn : ∀ (D : wg_C), flG C D → D 1 2 = Int32.ofNat np := fun D hD => by rw [hD.vw.1 1 2 (Or.inl rfl)]; exact oN_eq h.2.1
  -- the panes, from any state that is right
  have pan : ∀ D, DjI (GP C np o blk) (wC val C) s0 1 1000000000 C D → (∀ k, D 38 k = C1 38 k) → (∀ y, y < 192 → FoR (D 37) y ≤ FoR (C1 37) y ∧ (FoR (D 37) y = FoR (C1 37) y ∨ FoR (C1 37) x < FoR (D 37) y)) → ((x % 32 + 1 < 32) → FoR (D 37) (x + 1) ≤ FoR (C1 37) x + 1) → ∃ C2, f_X7_leave_i1_j36 NN S D (Int32.ofNat x) o (Int32.ofNat (x / 32)) (Int32.ofNat (x % 32)) = some C2 ∧ DjI (GP C np o blk) (wC val C) s0 1 1000000000 C C2 ∧ (∀ k, C2 38 k = C1 38 k) ∧ (∀ y, y < 192 → FoR (C2 37) y ≤ FoR (C1 37) y ∧ (FoR (C2 37) y = FoR (C1 37) y ∨ FoR (C1 37) x < FoR (C2 37) y)) ∧ ClsX (GP C np o blk) (wC val C) 1 (FoR (C2 37)) x := by
    intro D d1 d2 d3 d4
    unfold f_X7_leave_i1_j36
    obtain ⟨⟨C2, z⟩, u1, u2, u3, u4, u5, u6⟩ := lp_ok (b := fun (q : wg_C × Int32) => f_X7_leave_i1_l39 NN S (Int32.ofNat x) o (Int32.ofNat (x / 32)) (Int32.ofNat (x % 32)) q.1 q.2) (fun q => DjI (GP C np o blk) (wC val C) s0 1 1000000000 C q.1 ∧ (∀ k, q.1 38 k = C1 38 k) ∧ (∀ y, y < 192 → FoR (q.1 37) y ≤ FoR (C1 37) y ∧ (FoR (q.1 37) y = FoR (C1 37) y ∨ FoR (C1 37) x < FoR (q.1 37) y)) ∧ ((x % 32 + 1 < 32) → FoR (q.1 37) (x + 1) ≤ FoR (C1 37) x + 1) ∧ ∃ k, k ≤ np ∧ q.2 = Int32.ofNat k ∧ ∀ p y, p < k → GP C np o blk p x y → FoR (q.1 37) y ≤ FoR (C1 37) x + 1 * wC val C p x) (fun q => np - q.2.toInt.toNat) (fun q => DjI (GP C np o blk) (wC val C) s0 1 1000000000 C q.1 ∧ (∀ k, q.1 38 k = C1 38 k) ∧ (∀ y, y < 192 → FoR (q.1 37) y ≤ FoR (C1 37) y ∧ (FoR (q.1 37) y = FoR (C1 37) y ∨ FoR (C1 37) x < FoR (q.1 37) y)) ∧ ((x % 32 + 1 < 32) → FoR (q.1 37) (x + 1) ≤ FoR (C1 37) x + 1) ∧ ∀ p y, p < np → GP C np o blk p x y → FoR (q.1 37) y ≤ FoR (C1 37) x + 1 * wC val C p x) (by
      rintro ⟨E, z⟩ ⟨j1, j2, j3, j4, k, hk, e3, j5⟩
      simp only at j1 j2 j3 j4 e3 j5
      subst e3
      have hμ : ¬ np ≤ k → np - (Int32.ofNat k + 1).toInt.toNat < np - (Int32.ofNat k).toInt.toNat := fun _ => by
        rw [oN_s, oN_t (by omega), oN_t (by omega)]
        omega
      have hv := j1.1.vw
      simp only [f_X7_leave_i1_l39, hpn E j1.1, oN_le (show k < 2147483648 by omega) (show np < 2147483648 by omega), lt_eq]
      by_cases g : np ≤ k
      · right
        rw [if_pos g]
        have : k = np := by omega
        subst this
        exact ⟨_, rfl, j1, j2, j3, j4, j5⟩
      · left
        have hk' : k < np := by omega
        have hp : rg np (Int32.ofNat k) = true := oN_rg hk' (by omega)
        have ck : (Int32.ofNat k).toNatClampNeg = k := oN_cl (by omega)
        have fx : FoR (E 37) x = FoR (C1 37) x := by
          rcases j3 x hx with ⟨a1, a2 | a2⟩
          · exact a2
          · omega
        rw [if_neg g, ck_pos (oN_inb (show k < 8 by omega) (by decide)), ck]
        have hB : ∀ j, E (4 + k) j = C (4 + k) j := fun j => hv.1 _ j (Or.inr (by omega))
        have skip : (∀ y, ¬ GP C np o blk k x y) → ∃ y, (some (Sum.inl (E, Int32.ofNat k + 1)) : Option ((wg_C × Int32) ⊕ (wg_C × Int32))) = some (.inl y) ∧ (DjI (GP C np o blk) (wC val C) s0 1 1000000000 C y.1 ∧ (∀ k, y.1 38 k = C1 38 k) ∧ (∀ z, z < 192 → FoR (y.1 37) z ≤ FoR (C1 37) z ∧ (FoR (y.1 37) z = FoR (C1 37) z ∨ FoR (C1 37) x < FoR (y.1 37) z)) ∧ ((x % 32 + 1 < 32) → FoR (y.1 37) (x + 1) ≤ FoR (C1 37) x + 1) ∧ ∃ k, k ≤ np ∧ y.2 = Int32.ofNat k ∧ ∀ p z, p < k → GP C np o blk p x z → FoR (y.1 37) z ≤ FoR (C1 37) x + 1 * wC val C p x) ∧ np - y.2.toInt.toNat < np - (Int32.ofNat k).toInt.toNat := fun hno => by
          refine ⟨_, rfl, ⟨j1, j2, j3, j4, k + 1, by omega, oN_s k, fun p z hp hz => ?_⟩, hμ g⟩
          by_cases e : p = k
          · subst e; exact absurd hz (hno z)
          · exact j5 p z (by omega) hz
        have hpass : f_X1_passes E (4 + k) (Int32.ofNat (x % 32)) o = some (bI (passP C (4 + k) (Int32.ofNat (x % 32)) o = true)) := by
          rw [s8_passes E _ _ _ (by rw [hB]; have := h.pn hp; rw [ck] at this; exact this), hB, hB, hB]
          rfl
        simp only [hB 4, hpass]
        by_cases g2 : C (4 + k) 4 = Int32.ofNat (x / 32)
        · rw [if_pos g2, bd_eq, if_bI]
          by_cases g3 : passP C (4 + k) (Int32.ofNat (x % 32)) o = true
          · rw [if_pos g3]
            obtain ⟨y1, y2, y3⟩ := gp_y h hk' (pass_on g3)
            have hP : GP C np o blk k x (32 * (leadP C (4 + k)).toNatClampNeg + (onP C (4 + k) (Int32.ofNat (x % 32))).toNatClampNeg) := ⟨hk', hblk k (by omega), by rw [g2, oN_t (by omega)], g3, rfl⟩
            generalize hyy : 32 * (leadP C (4 + k)).toNatClampNeg + (onP C (4 + k) (Int32.ofNat (x % 32))).toNatClampNeg = yy at y2 y3 hP
            clear y1
            obtain ⟨E1, w1, w2⟩ := worth8 (N := M) h hv (by decide) (ht.keep (fun a j q => j1.1 a j (by omega) (by omega) (by omega) (by omega)) (fun _ => rfl) (fun _ => rfl)) (by rw [hv.1 1 3 (Or.inl rfl)]; exact ht1) hnt hnt6 (by rw [j1.1 31 1 (by decide) (by decide) (by decide) (by decide)]; exact h31) (p := Int32.ofNat k) hp (Int32.ofNat (x % 32)) (w := 0) (by decide)
            rw [ck] at w1
            rw [w1, bd2_eq]
            have e37 : E1 37 = E 37 := by funext j; exact w2 37 j (by decide) (by decide)
            have G1 : DjI (GP C np o blk) (wC val C) s0 1 1000000000 C E1 := ⟨fun a j q1 q2 q3 q4 => (w2 a j q1 q2).trans (j1.1 a j q1 q2 q3 q4), by rw [e37]; exact j1.2.1, by rw [e37]; exact j1.2.2⟩
            have G2 : FoR (E1 37) = FoR (E 37) := by rw [e37]
            have G3 : ∀ j, E1 38 j = E 38 j := fun j => w2 38 j (by decide) (by decide)
            have wt := wC_t val C k x
            have hst : (saysV val C (Int32.ofNat k) (Int32.ofNat (x % 32)) 0).toInt = ((1 * wC val C k x : Nat) : Int) := by rw [Nat.one_mul]; exact wt.1
            have hst1 : 1 ≤ 1 * wC val C k x := by omega
            have hv' := G1.1.vw
            have hB' : ∀ j, E1 (4 + k) j = C (4 + k) j := fun j => hv'.1 _ j (Or.inr (by omega))
            have hl : leadP E1 (4 + k) = leadP C (4 + k) := by unfold leadP; rw [hB', hB', hB']
            have hon : onP E1 (4 + k) (Int32.ofNat (x % 32)) = onP C (4 + k) (Int32.ofNat (x % 32)) := by unfold onP; rw [hB', hB', hB']
            unfold f_X7_leave_i1_j106l39
            rw [p8_leads, bd_eq, p8_on, bd_eq, hl, hon, y2, ck_pos (oN_inb hx (by decide)), oN_cl (show x < 2147483648 by omega)]
            have bx := G1.2.1 x hx
            have byy := G1.2.1 yy y3
            have fx' : (E1 37 x).toInt = (FoR (E1 37) x : Nat) := by unfold FoR; omega
            have eu : (E1 37 x + (saysV val C (Int32.ofNat k) (Int32.ofNat (x % 32)) 0)).toInt = ((FoR (E1 37) x + 1 * wC val C k x : Nat) : Int) := i_addN fx' hst (by clear j3 j4 j5 d3 d4; omega)
            have eu' : (E1 37 x + (saysV val C (Int32.ofNat k) (Int32.ofNat (x % 32)) 0)).toInt.toNat = FoR (E1 37) x + 1 * wC val C k x := by rw [eu]; exact Int.toNat_natCast _
            rw [s8_shorten E1 y3 _ (by rw [eu]; exact Int.natCast_nonneg _) byy.1, eu', bd_eq, lt_eq]
            rw [G2, fx]
            by_cases g4 : FoR (C1 37) x + 1 * wC val C k x < FoR (E 37) yy
            · rw [if_pos g4]
              have up := FoR_upC E1 yy (E1 37 x + (saysV val C (Int32.ofNat k) (Int32.ofNat (x % 32)) 0))
              rw [eu', G2, fx] at up
              refine ⟨_, rfl, ⟨⟨fun a j q1 q2 q3 q4 => ?_, G1.2.1.upC (by rw [eu]; exact Int.natCast_nonneg _) ?_, ?_⟩, fun j => ?_, fun y hy => ?_, fun hd => ?_, k + 1, by omega, oN_s k, fun p z hp hz => ?_⟩, hμ g⟩
              · exact (up_r _ _ _ _ q3).trans (G1.1 a j q1 q2 q3 q4)
              · rw [eu, G2, fx]
                have := j1.2.1 yy y3
                unfold FoR at g4 ⊢
                clear j3 j4 j5 d3 d4
                omega
              · show Ach _ _ _ _ _ (FoR (wg_up E1 37 yy (E1 37 x + (saysV val C (Int32.ofNat k) (Int32.ofNat (x % 32)) 0)) 37))
                rw [up, ← fx]
                rw [← fx] at g4
                exact j1.2.2.pane hx (by rw [fx]; exact hr) hP g4
              · show wg_up E1 37 yy (E1 37 x + saysV val C (Int32.ofNat k) (Int32.ofNat (x % 32)) 0) 38 j = C1 38 j; rw [up_r _ _ _ _ (by decide)]; exact (G3 j).trans (j2 j)
              · show FoR (wg_up E1 37 yy (E1 37 x + (saysV val C (Int32.ofNat k) (Int32.ofNat (x % 32)) 0)) 37) y ≤ _ ∧ (FoR (wg_up E1 37 yy (E1 37 x + (saysV val C (Int32.ofNat k) (Int32.ofNat (x % 32)) 0)) 37) y = _ ∨ _ < FoR (wg_up E1 37 yy (E1 37 x + (saysV val C (Int32.ofNat k) (Int32.ofNat (x % 32)) 0)) 37) y)
                rw [up]
                by_cases e : y = yy
                · subst e
                  rw [upN_s]
                  have := (j3 y hy).1
                  have hw1 : 1 ≤ 1 * wC val C k x := hst1
                  exact ⟨by omega, Or.inr (by omega)⟩
                · rw [upN_k _ _ e]
                  exact j3 y hy
              · show FoR (wg_up E1 37 yy (E1 37 x + (saysV val C (Int32.ofNat k) (Int32.ofNat (x % 32)) 0)) 37) (x + 1) ≤ _
                rw [up]
                have := j4 hd
                by_cases e : x + 1 = yy
                · rw [e, upN_s]
                  rw [← e] at g4
                  omega
                · rw [upN_k _ _ e]
                  exact this
              · show FoR (wg_up E1 37 yy (E1 37 x + (saysV val C (Int32.ofNat k) (Int32.ofNat (x % 32)) 0)) 37) z ≤ _
                rw [up]
                by_cases e : p = k
                · subst e
                  have : z = yy := by rw [hz.2.2.2.2]; exact hyy
                  rw [this, upN_s]
                  exact Nat.le_refl _
                · have := j5 p z (by omega) hz
                  by_cases e : z = yy
                  · rw [e, upN_s]
                    rw [e] at this
                    omega
                  · rw [upN_k _ _ e]
                    exact this
            · rw [if_neg g4]
              refine ⟨_, rfl, ⟨G1, fun j => (G3 j).trans (j2 j), fun y hy => ?_, fun hd => ?_, k + 1, by omega, oN_s k, fun p z hp hz => ?_⟩, hμ g⟩
              · show FoR (E1 37) y ≤ _ ∧ (FoR (E1 37) y = _ ∨ _ < FoR (E1 37) y)
                rw [G2]; exact j3 y hy
              · show FoR (E1 37) (x + 1) ≤ _
                rw [G2]; exact j4 hd
              · show FoR (E1 37) z ≤ _
                rw [G2]
                by_cases e : p = k
                · subst e
                  have : z = yy := by rw [hz.2.2.2.2]; exact hyy
                  rw [this]
                  omega
                · exact j5 p z (by omega) hz
          · rw [if_neg g3]
            exact skip (fun y z => g3 z.2.2.2.1)
        · rw [if_neg g2]
          exact skip (fun y z => g2 ((i_eq _ _).mpr (by rw [z.2.2.1, oN_t (by omega)])))) NN (D, 0) ⟨d1, d2, d3, d4, 0, by omega, rfl, fun p y hp => absurd hp (Nat.not_lt_zero _)⟩ (by have := NN_big; show np - _ < NN; omega)
    rw [u1, bd2_eq]
    simp only at u2 u3 u4 u5 u6
    have fx : FoR (C2 37) x = FoR (C1 37) x := by
      rcases u4 x hx with ⟨a1, a2 | a2⟩
      · exact a2
      · omega
    exact ⟨C2, rfl, u2, u3, u4, fun hd => by rw [fx]; exact u5 hd, fun p y hp => by rw [fx]; exact u6 p y hp.1 hp⟩
  unfold f_X7_leave_i1
  simp only [lt_eq, e2]
  rw [e1]
  have g0 : (32 : Int32) ≤ Int32.ofNat (x % 32) + 1 ↔ ¬ x % 32 + 1 < 32 := by
    rw [oN_s, i_le, oN_t (by omega), show (32 : Int32).toInt = 32 from rfl]
    omega
  by_cases g : x % 32 + 1 < 32
  · rw [if_neg (fun z => g0.mp z g), ck_pos (oN_inb hx (by decide)), oN_s, oN_cl (show x < 2147483648 by omega)]
    have hx1 : x + 1 < 192 := by omega
    have bx := h1.2.1 x hx
    have bx1 := h1.2.1 (x + 1) hx1
    have fx : (C1 37 x).toInt = (FoR (C1 37) x : Nat) := by unfold FoR; omega
    have eu : (C1 37 x + 1).toInt = ((FoR (C1 37) x + 1 : Nat) : Int) := i_addN fx rfl (by omega)
    have eu' : (C1 37 x + 1).toInt.toNat = FoR (C1 37) x + 1 := by rw [eu]; exact Int.toNat_natCast _
    rw [s8_shorten C1 hx1 _ (by rw [eu]; exact Int.natCast_nonneg _) bx1.1, eu', bd_eq]
    by_cases g4 : FoR (C1 37) x + 1 < FoR (C1 37) (x + 1)
    · rw [if_pos g4]
      have up := FoR_upC C1 (x + 1) (C1 37 x + 1)
      rw [eu'] at up
      refine pan _ ⟨fun a j q1 q2 q3 q4 => (up_r _ _ _ _ q3).trans (h1.1 a j q1 q2 q3 q4), h1.2.1.upC (by rw [eu]; exact Int.natCast_nonneg _) (by rw [eu]; unfold FoR at *; omega), by rw [up]; exact h1.2.2.wait hx hr g g4⟩ (fun j => up_r _ _ _ _ (by decide)) (fun y hy => ?_) (fun _ => ?_)
      · rw [up]
        by_cases e : y = x + 1
        · subst e
          rw [upN_s]
          exact ⟨by omega, Or.inr (by omega)⟩
        · rw [upN_k _ _ e]
          exact ⟨Nat.le_refl _, Or.inl rfl⟩
      · rw [up, upN_s]
        exact Nat.le_refl _
    · rw [if_neg g4]
      exact pan C1 h1 (fun _ => rfl) (fun y hy => ⟨Nat.le_refl _, Or.inl rfl⟩) (fun _ => by omega)
  · rw [if_pos (g0.mpr g)]
    exact pan C1 h1 (fun _ => rfl) (fun y hy => ⟨Nat.le_refl _, Or.inl rfl⟩) (fun z => absurd z g)
