theorem bkV0 : ∀ p : Nat, p < 8 → bkV 0 p = false := by decide
def flG (C D : wg_C) : Prop := ∀ a k, a ≠ 33 → a ≠ 34 → a ≠ 37 → a ≠ 38 → D a k = C a k
theorem flG.keep {C D : wg_C} (h : flG C D) : keepC C D := fun a k q => h a k (by unfold pC at q; omega) (by unfold pC at q; omega) (by unfold pC at q; omega) (by unfold pC at q; omega)
theorem flG.vw {C D : wg_C} (h : flG C D) : vwC C D 2 := ⟨fun a k q => h a k (by omega) (by omega) (by omega) (by omega), fun d _ => h 2 d (by decide) (by decide) (by decide) (by decide)⟩
def DjI (P : Nat → Nat → Nat → Prop) (w : Nat → Nat → Nat) (s0 K R : Nat) (C D : wg_C) : Prop := flG C D ∧ Bd (D 37) R ∧ Ach P w s0 K R (FoR (D 37))
theorem FoR_upC (C : wg_C) (y : Nat) (u : Int32) : FoR (wg_up C 37 y u 37) = upN (FoR (C 37)) y u.toInt.toNat := by
  funext x
  unfold FoR upN
  by_cases e : x = y
  · rw [if_pos e, e, up_s]
  · rw [if_neg e, up_k _ _ e]
theorem Bd.upC {C : wg_C} {R : Nat} (h : Bd (C 37) R) {y : Nat} {u : Int32} (h0 : 0 ≤ u.toInt) (h1 : u.toInt ≤ R) : Bd (wg_up C 37 y u 37) R := by
  intro x hx
  by_cases e : x = y
  · rw [e, up_s]; exact ⟨h0, h1⟩
  · rw [up_k _ _ e]; exact h x hx
theorem s8_shorten (C : wg_C) {y : Nat} (hy : y < 192) (u : Int32) (hu : 0 ≤ u.toInt) (hM : 0 ≤ (C 37 y).toInt) : f_X7_shorten C (Int32.ofNat y) u = some (if u.toInt.toNat < FoR (C 37) y then wg_up C 37 y u else C) := by
  unfold f_X7_shorten FoR
  rw [ck_pos (oN_inb hy (by decide)), ck_pos (oN_inb hy (by decide)), oN_cl (by omega)]
  simp only [i_le, lt_eq]
  by_cases g : u.toInt < (C 37 y).toInt
  · rw [if_neg (by omega), if_pos (by omega)]
  · rw [if_pos (by omega), if_neg (by omega)]
theorem s8_nearest {C : wg_C} (h : Bd (C 37) 1000000000) : ∃ v, f_X7_nearest NN C = some v ∧ ((v = -1 ∧ ∀ x, x < 192 → C 38 x = 0 → ¬ FoR (C 37) x < 1000000000) ∨ ∃ z, z < 192 ∧ v = Int32.ofNat z ∧ C 38 z = 0 ∧ FoR (C 37) z < 1000000000 ∧ ∀ y, y < 192 → C 38 y = 0 → FoR (C 37) z ≤ FoR (C 37) y) := by
  unfold f_X7_nearest
  obtain ⟨⟨v, u, k⟩, e1, e2⟩ := lp_ok (b := fun (q : Int32 × Int32 × Int32) => f_X7_nearest_l7 NN C q.1 q.2.1 q.2.2) (fun q => ∃ k, k ≤ 192 ∧ q.2.2 = Int32.ofNat k ∧ ((q.1 = -1 ∧ q.2.1 = 1000000000 ∧ ∀ x, x < k → C 38 x = 0 → ¬ FoR (C 37) x < 1000000000) ∨ ∃ z, z < k ∧ q.1 = Int32.ofNat z ∧ q.2.1 = C 37 z ∧ C 38 z = 0 ∧ FoR (C 37) z < 1000000000 ∧ ∀ y, y < k → C 38 y = 0 → FoR (C 37) z ≤ FoR (C 37) y)) (fun q => 192 - q.2.2.toInt.toNat) (fun q => (q.1 = -1 ∧ ∀ x, x < 192 → C 38 x = 0 → ¬ FoR (C 37) x < 1000000000) ∨ ∃ z, z < 192 ∧ q.1 = Int32.ofNat z ∧ C 38 z = 0 ∧ FoR (C 37) z < 1000000000 ∧ ∀ y, y < 192 → C 38 y = 0 → FoR (C 37) z ≤ FoR (C 37) y) (by
    rintro ⟨v, u, z⟩ ⟨k, hk, e1, j⟩
    simp only at e1 j
    subst e1
    have hμ : ¬ 192 ≤ k → 192 - (Int32.ofNat k + 1).toInt.toNat < 192 - (Int32.ofNat k).toInt.toNat := fun _ => by
      rw [oN_s, oN_t (by omega), oN_t (by omega)]
      omega
    have g0 : (192 : Int32) ≤ Int32.ofNat k ↔ 192 ≤ k := oN_le (show k < 2147483648 by omega) (show 192 < 2147483648 by omega)
    simp only [f_X7_nearest_l7, g0, lt_eq]
    by_cases g : 192 ≤ k
    · right
      rw [if_pos g]
      have : k = 192 := by omega
      subst this
      refine ⟨_, rfl, ?_⟩
      rcases j with ⟨a1, a2, a3⟩ | ⟨z, a1, a2, a3, a4⟩
      · exact Or.inl ⟨a1, a3⟩
      · exact Or.inr ⟨z, a1, a2, a4⟩
    · left
      have hk' : k < 192 := by omega
      rw [if_neg g, ck_pos (oN_inb hk' (by decide)), ck_pos (oN_inb hk' (by decide)), ck_pos (oN_inb hk' (by decide)), oN_cl (show k < 2147483648 by omega)]
      have bk := h k hk'
      by_cases g1 : C 38 k = 0
      · rw [if_pos g1]
        by_cases g2 : u ≤ C 37 k
        · rw [if_pos g2]
          rw [i_le] at g2
          refine ⟨_, rfl, ⟨k + 1, by omega, oN_s k, ?_⟩, hμ g⟩
          rcases j with ⟨a1, a2, a3⟩ | ⟨z, a1, a2, a3, a4, a5, a6⟩
          · refine Or.inl ⟨a1, a2, fun x hx h0 => ?_⟩
            by_cases e : x = k
            · subst e
              rw [a2, show (1000000000 : Int32).toInt = 1000000000 from rfl] at g2
              unfold FoR
              omega
            · exact a3 x (by omega) h0
          · refine Or.inr ⟨z, by omega, a2, a3, a4, a5, fun y hy h0 => ?_⟩
            by_cases e : y = k
            · subst e
              rw [a3] at g2
              unfold FoR
              omega
            · exact a6 y (by omega) h0
        · rw [if_neg g2]
          rw [i_le] at g2
          refine ⟨_, rfl, ⟨k + 1, by omega, oN_s k, Or.inr ⟨k, by omega, rfl, rfl, g1, ?_, fun y hy h0 => ?_⟩⟩, hμ g⟩
          · rcases j with ⟨a1, a2, a3⟩ | ⟨z, a1, a2, a3, a4, a5, a6⟩
            · rw [a2, show (1000000000 : Int32).toInt = 1000000000 from rfl] at g2
              unfold FoR
              omega
            · rw [a3] at g2
              unfold FoR at a5 ⊢
              omega
          · by_cases e : y = k
            · subst e; exact Nat.le_refl _
            · rcases j with ⟨a1, a2, a3⟩ | ⟨z, a1, a2, a3, a4, a5, a6⟩
              · have := a3 y (by omega) h0
                rw [a2, show (1000000000 : Int32).toInt = 1000000000 from rfl] at g2
                unfold FoR at this ⊢
                omega
              · have := a6 y (by omega) h0
                rw [a3] at g2
                unfold FoR at this ⊢
                omega
      · rw [if_neg g1]
        refine ⟨_, rfl, ⟨k + 1, by omega, oN_s k, ?_⟩, hμ g⟩
        rcases j with ⟨a1, a2, a3⟩ | ⟨z, a1, a2, a3, a4, a5, a6⟩
        · refine Or.inl ⟨a1, a2, fun x hx h0 => ?_⟩
          by_cases e : x = k
          · subst e; exact absurd h0 g1
          · exact a3 x (by omega) h0
        · refine Or.inr ⟨z, by omega, a2, a3, a4, a5, fun y hy h0 => ?_⟩
          by_cases e : y = k
          · subst e; exact absurd h0 g1
          · exact a6 y (by omega) h0) NN (-1, 1000000000, 0) ⟨0, by omega, rfl, Or.inl ⟨rfl, rfl, fun x hx => absurd hx (Nat.not_lt_zero _)⟩⟩ (by have := NN_big; show 192 - _ < NN; omega)
  rw [e1, bd3_eq]
  exact ⟨v, rfl, e2⟩
theorem cntL_up {F G : Nat → Nat} {v z : Nat} (h : ∀ x, G x ≤ F x) (h1 : G z < v) (h2 : v ≤ F z) : ∀ n, z < n → cntL F v n + 1 ≤ cntL G v n
  | 0, hz => absurd hz (Nat.not_lt_zero _)
  | n + 1, hz => by
    unfold cntL
    have m : ∀ k, cntL F v k ≤ cntL G v k := by
      intro k
      induction k with
      | zero => exact Nat.le_refl _
      | succ k ih =>
        unfold cntL
        have := h k
        by_cases a : F k < v
        · rw [if_pos a, if_pos (by omega)]; omega
        · rw [if_neg a]; omega
    by_cases e : z = n
    · subst e
      rw [if_neg (by omega), if_pos h1]
      have := m z
      omega
    · have := cntL_up h h1 h2 n (by omega)
      have := h n
      by_cases a : F n < v
      · rw [if_pos a, if_pos (by omega)]; omega
      · rw [if_neg a]; omega
/-- settled ones, as a count -/
def stF (f : Nat → Int32) : Nat → Nat := fun x => if f x = 0 then 1 else 0
/-- what leaving a spot does -/
def LvC (P : Nat → Nat → Nat → Prop) (w : Nat → Nat → Nat) (s0 K : Nat) (C : wg_C) (lv : wg_C → Int32 → Option wg_C) : Prop := ∀ C1 x, x < 192 → DjI P w s0 K 1000000000 C C1 → FoR (C1 37) x < 1000000000 → ∃ C2, lv C1 (Int32.ofNat x) = some C2 ∧ DjI P w s0 K 1000000000 C C2 ∧ (∀ k, C2 38 k = C1 38 k) ∧ (∀ y, y < 192 → FoR (C2 37) y ≤ FoR (C1 37) y ∧ (FoR (C2 37) y = FoR (C1 37) y ∨ FoR (C1 37) x < FoR (C2 37) y)) ∧ ClsX P w K (FoR (C2 37)) x
theorem dj_loop {P : Nat → Nat → Nat → Prop} {w : Nat → Nat → Nat} {s0 K m : Nat} {C : wg_C} {lv : wg_C → Int32 → Option wg_C} (hL : LvC P w s0 K C lv) (hW : Wgt P w m) {bdy : wg_C × Int32 → Option ((wg_C × Int32) ⊕ ((wg_C × Int32) ⊕ wg_C))} (hb : ∀ D k, bdy (D, k) = if (192 : Int32) ≤ k then some (.inr (.inl (D, k))) else bd (f_X7_nearest NN D) fun r10 => if r10 = (-1 : Int32) then some (.inr (.inr D)) else ck (inb r10 192) <| bd (lv (wg_up D 38 r10.toNatClampNeg (1 : Int32)) r10) fun C16 => some (.inl (C16, k + (1 : Int32)))) {C1 : wg_C} (h1 : DjI P w s0 K 1000000000 C C1) (h2 : ∀ x, x < 192 → C1 38 x = 0) : ∃ r D, lp bdy NN (C1, (0 : Int32)) = some r ∧ (r = .inr D ∨ ∃ k, r = .inl (D, k)) ∧ flG C D ∧ Bd (D 37) 1000000000 ∧ FinS P w s0 K 1000000000 (FoR (D 37)) := by
  obtain ⟨r, e1, D, e2, e3⟩ := lp_ok (b := bdy) (fun q => DjI P w s0 K 1000000000 C q.1 ∧ ∃ k, k ≤ 192 ∧ q.2 = Int32.ofNat k ∧ (∀ x, x < 192 → q.1 38 x = 0 ∨ q.1 38 x = 1) ∧ k ≤ cntL (stF (q.1 38)) 1 192 ∧ (∀ x, x < 192 → q.1 38 x = 1 → FoR (q.1 37) x < 1000000000 ∧ ClsX P w K (FoR (q.1 37)) x) ∧ ∀ x y, x < 192 → y < 192 → q.1 38 x = 1 → q.1 38 y = 0 → FoR (q.1 37) x ≤ FoR (q.1 37) y) (fun q => 192 - q.2.toInt.toNat) (fun r => ∃ D, (r = .inr D ∨ ∃ k, r = .inl (D, k)) ∧ DjI P w s0 K 1000000000 C D ∧ ∀ x, x < 192 → FoR (D 37) x < 1000000000 → ClsX P w K (FoR (D 37)) x) (by
    rintro ⟨D, z⟩ ⟨j1, k, hk, e1, j2, j3, j4, j5⟩
    simp only at j1 e1 j2 j3 j4 j5
    subst e1
    have hμ : ¬ 192 ≤ k → 192 - (Int32.ofNat k + 1).toInt.toNat < 192 - (Int32.ofNat k).toInt.toNat := fun _ => by
      rw [oN_s, oN_t (by omega), oN_t (by omega)]
      omega
    have g0 : (192 : Int32) ≤ Int32.ofNat k ↔ 192 ≤ k := oN_le (show k < 2147483648 by omega) (show 192 < 2147483648 by omega)
    rw [hb]
    simp only [g0]
    by_cases g : 192 ≤ k
    · right
      rw [if_pos g]
      refine ⟨_, rfl, D, Or.inr ⟨_, rfl⟩, j1, fun x hx hr => ?_⟩
      rcases j2 x hx with e | e
      · have := cntL_x (stF (D 38)) (v := 1) (x := x) (by unfold stF; rw [if_pos e]; exact Nat.le_refl _) 192 hx
        omega
      · exact (j4 x hx e).2
    · rw [if_neg g]
      obtain ⟨v, u1, ⟨rfl, u2⟩ | ⟨z, hz, rfl, z1, z2, z3⟩⟩ := s8_nearest j1.2.1
      · right
        rw [u1, bd_eq, if_pos rfl]
        refine ⟨_, rfl, D, Or.inl rfl, j1, fun x hx hr => ?_⟩
        rcases j2 x hx with e | e
        · exact absurd hr (u2 x hx e)
        · exact (j4 x hx e).2
      · left
        have hne : ¬ Int32.ofNat z = -1 := by
          rw [i_eq, oN_t (by omega)]
          show ¬ (z : Int) = -1
          omega
        rw [u1, bd_eq, if_neg hne, ck_pos (oN_inb hz (by decide)), oN_cl (show z < 2147483648 by omega)]
        have hD : DjI P w s0 K 1000000000 C (wg_up D 38 z 1) := by
          have e37 : wg_up D 38 z 1 37 = D 37 := wg_up_ne D z 1 (by decide)
          refine ⟨fun a j q1 q2 q3 q4 => ?_, ?_, ?_⟩
          · rw [up_r _ _ _ _ q4]; exact j1.1 a j q1 q2 q3 q4
          · rw [e37]; exact j1.2.1
          · rw [e37]; exact j1.2.2
        have e37 : wg_up D 38 z 1 37 = D 37 := wg_up_ne D z 1 (by decide)
        obtain ⟨E, v1, v2, v3, v4, v5⟩ := hL (wg_up D 38 z 1) z hz hD (by rw [e37]; exact z2)
        rw [e37] at v4
        rw [v1, bd_eq]
        have s1 : ∀ x, E 38 x = if x = z then 1 else D 38 x := fun x => by
          rw [v3]
          by_cases e : x = z
          · rw [if_pos e, e, up_s]
          · rw [if_neg e, up_k _ _ e]
        have fz : FoR (E 37) z = FoR (D 37) z := by
          rcases v4 z hz with ⟨a1, a2 | a2⟩
          · exact a2
          · omega
        have fs : ∀ x, x < 192 → D 38 x = 1 → FoR (E 37) x = FoR (D 37) x := fun x hx e => by
          have := j5 x z hx hz e z1
          rcases v4 x hx with ⟨a1, a2 | a2⟩
          · exact a2
          · omega
        refine ⟨_, rfl, ⟨v2, k + 1, by omega, oN_s k, fun x hx => ?_, ?_, fun x hx e => ?_, fun x y hx hy ex ey => ?_⟩, hμ g⟩
        · show E 38 x = 0 ∨ E 38 x = 1
          rw [s1]
          by_cases e : x = z
          · rw [if_pos e]; exact Or.inr rfl
          · rw [if_neg e]; exact j2 x hx
        · have := cntL_up (F := stF (D 38)) (G := stF (E 38)) (v := 1) (z := z) (fun x => by
            unfold stF
            rw [s1]
            by_cases e : x = z
            · rw [if_pos e, if_neg (by decide)]; omega
            · rw [if_neg e]; exact Nat.le_refl _) (by unfold stF; rw [s1, if_pos rfl, if_neg (by decide)]; omega) (by unfold stF; rw [if_pos z1]; exact Nat.le_refl _) 192 hz
          show k + 1 ≤ cntL (stF (E 38)) 1 192
          omega
        · replace e : E 38 x = 1 := e
          show FoR (E 37) x < 1000000000 ∧ ClsX P w K (FoR (E 37)) x
          rw [s1] at e
          by_cases exz : x = z
          · rw [exz, fz]
            exact ⟨z2, v5⟩
          · rw [if_neg exz] at e
            have q := j4 x hx e
            rw [fs x hx e]
            refine ⟨q.1, fun hd => ?_, fun p y hp => ?_⟩
            · rw [fs x hx e]
              exact Nat.le_trans (v4 (x + 1) (by omega)).1 (q.2.1 hd)
            · rw [fs x hx e]
              exact Nat.le_trans (v4 y (hW p x y hp).1).1 (q.2.2 p y hp)
        · replace ex : E 38 x = 1 := ex
          replace ey : E 38 y = 0 := ey
          show FoR (E 37) x ≤ FoR (E 37) y
          rw [s1] at ex ey
          have eyz : y ≠ z := fun e => by rw [if_pos e] at ey; exact absurd ey (by decide)
          rw [if_neg eyz] at ey
          have hxz : FoR (E 37) x ≤ FoR (D 37) z ∧ FoR (E 37) x ≤ FoR (D 37) y := by
            by_cases exz : x = z
            · rw [exz, fz]
              exact ⟨Nat.le_refl _, z3 y hy ey⟩
            · rw [if_neg exz] at ex
              rw [fs x hx ex]
              exact ⟨j5 x z hx hz ex z1, j5 x y hx hy ex ey⟩
          rcases v4 y hy with ⟨a1, a2 | a2⟩
          · rw [a2]; exact hxz.2
          · omega) NN (C1, 0) ⟨h1, 0, by omega, rfl, fun x hx => Or.inl (h2 x hx), Nat.zero_le _, fun x hx e => by
      replace e : C1 38 x = 1 := e
      rw [h2 x hx] at e
      exact absurd e (by decide), fun x y hx hy e => by
      replace e : C1 38 x = 1 := e
      rw [h2 x hx] at e
      exact absurd e (by decide)⟩ (by have := NN_big; show 192 - _ < NN; omega)
  exact ⟨r, D, e1, e2, e3.1.1, e3.1.2.1, e3.1.2.2.1, e3.1.2.2.2, fun x hx hr hd => (e3.2 x hx hr).1 hd, fun p x y hx hr hp => (e3.2 x hx hr).2 p y hp⟩
