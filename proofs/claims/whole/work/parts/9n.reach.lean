theorem on_mono {np : Nat} {C : wg_C} {M : wg_M} (h : IHo np C M) {k : Nat} (hk : k < np) {d e : Nat} (hd : d ≤ e) (he : e < 32) (r1 : rg 32 (onP C (4 + k) (Int32.ofNat d)) = true) (r2 : rg 32 (onP C (4 + k) (Int32.ofNat e)) = true) : (onP C (4 + k) (Int32.ofNat d)).toNatClampNeg ≤ (onP C (4 + k) (Int32.ofNat e)).toNatClampNeg := by
  rw [i_cl, i_cl]
  rw [rg_iff] at r1 r2
  unfold onP onV at *
  have ed := oN_t (show d < 2147483648 by omega)
  have ee := oN_t (show e < 2147483648 by omega)
  generalize Int32.ofNat d = a at *
  generalize Int32.ofNat e = b at *
  generalize C (4 + k) 3 * (C (4 + k) 2 + 1) = z at *
  generalize C (4 + k) 1 = q at *
  generalize C (4 + k) 3 = s at *
  generalize C (4 + k) 2 = n at *
  clear h
  by_cases c1 : q = 4
  · simp only [c1, if_true] at *
    omega
  · by_cases c2 : q = 5
    · simp only [c2, show ¬ (5 : Int32) = 4 by decide, if_true, if_false, i_add] at *
      omega
    · by_cases c3 : q = 1 ∨ q = 3
      · simp only [c1, c2, c3, if_true, if_false, i_add, i_sub] at *
        omega
      · simp only [c1, c2, c3, if_false, i_add] at *
        omega
theorem s8_firstOut {np : Nat} {C D : wg_C} {M : wg_M} {o : Int32} (h : IHo np C M) {k : Nat} (hk : k < np) (hD : ∀ j, D (4 + k) j = C (4 + k) j) {a : Nat} (ha : a ≤ 32) : ∃ v : Nat, f_X1_firstOut NN D (4 + k) (Int32.ofNat a) o = some (Int32.ofNat v) ∧ ((v = 32 ∧ ∀ d, a ≤ d → d < 32 → ¬ passP C (4 + k) (Int32.ofNat d) o = true) ∨ (v < 32 ∧ ∃ d, a ≤ d ∧ d < 32 ∧ passP C (4 + k) (Int32.ofNat d) o = true ∧ v = (onP C (4 + k) (Int32.ofNat d)).toNatClampNeg ∧ ∀ e, a ≤ e → e < 32 → passP C (4 + k) (Int32.ofNat e) o = true → v ≤ (onP C (4 + k) (Int32.ofNat e)).toNatClampNeg)) := by
  unfold f_X1_firstOut
  obtain ⟨r, e1, e2⟩ := lp_ok (b := fun (q : Int32) => f_X1_firstOut_l2 NN (4 + k) D o q) (fun q => ∃ d, a ≤ d ∧ d ≤ 32 ∧ q = Int32.ofNat d ∧ ∀ e, a ≤ e → e < d → ¬ passP C (4 + k) (Int32.ofNat e) o = true) (fun q => 32 - q.toInt.toNat) (fun r => (∃ z, r = .inl z ∧ ∀ d, a ≤ d → d < 32 → ¬ passP C (4 + k) (Int32.ofNat d) o = true) ∨ ∃ d, a ≤ d ∧ d < 32 ∧ passP C (4 + k) (Int32.ofNat d) o = true ∧ r = .inr (onP C (4 + k) (Int32.ofNat d)) ∧ ∀ e, a ≤ e → e < d → ¬ passP C (4 + k) (Int32.ofNat e) o = true) (by
    rintro q ⟨d, hd, hd2, rfl, j⟩
    have g0 : (32 : Int32) ≤ Int32.ofNat d ↔ 32 ≤ d := oN_le (show d < 2147483648 by omega) (show 32 < 2147483648 by omega)
    have hpass : f_X1_passes D (4 + k) (Int32.ofNat d) o = some (bI (passP C (4 + k) (Int32.ofNat d) o = true)) := by
      rw [s8_passes D _ _ _ (by rw [hD]; exact (h.2.2.2.2.2 k hk).2.2.2.2.2.2.1), hD, hD, hD]
      rfl
    have hon : onP D (4 + k) (Int32.ofNat d) = onP C (4 + k) (Int32.ofNat d) := by unfold onP; rw [hD, hD, hD]
    simp only [f_X1_firstOut_l2, g0, hpass, bd_eq, if_bI, p8_on, hon, lt_eq]
    by_cases g : 32 ≤ d
    · right
      rw [if_pos g]
      exact ⟨_, rfl, Or.inl ⟨_, rfl, fun e h1 h2 => j e h1 (by omega)⟩⟩
    · rw [if_neg g]
      by_cases g1 : passP C (4 + k) (Int32.ofNat d) o = true
      · right
        rw [if_pos g1]
        exact ⟨_, rfl, Or.inr ⟨d, hd, by omega, g1, rfl, j⟩⟩
      · left
        rw [if_neg g1]
        refine ⟨_, rfl, ⟨d + 1, by omega, by omega, oN_s d, fun e h1 h2 => ?_⟩, ?_⟩
        · by_cases z : e = d
          · subst z; exact g1
          · exact j e h1 (by omega)
        · rw [oN_s, oN_t (by omega), oN_t (by omega)]
          omega) NN (Int32.ofNat a) ⟨a, Nat.le_refl _, ha, rfl, fun e h1 h2 => by omega⟩ (by have := NN_big; show 32 - _ < NN; omega)
  rw [e1]
  rcases e2 with ⟨z, rfl, e3⟩ | ⟨d, d1, d2, d3, rfl, d4⟩
  · exact ⟨32, rfl, Or.inl ⟨rfl, e3⟩⟩
  · have hr := pass_on d3
    have hc := cl_lt hr
    refine ⟨(onP C (4 + k) (Int32.ofNat d)).toNatClampNeg, ?_, Or.inr ⟨hc, d, d1, d2, d3, rfl, fun e h1 h2 h3 => ?_⟩⟩
    · show some (onP C (4 + k) (Int32.ofNat d)) = _
      congr 1
      rw [i_eq, oN_t (by omega), i_cl]
      rw [rg_iff] at hr
      omega
    · by_cases z : d ≤ e
      · exact on_mono h hk z h2 hr (pass_on h3)
      · exact absurd h3 (d4 e h1 (by omega))
def sum6 (f : Nat → Int32) : Nat := FoR f 0 + FoR f 1 + FoR f 2 + FoR f 3 + FoR f 4 + FoR f 5
theorem sum6_up (C : wg_C) {r : Nat} (hr : r < 6) (u : Int32) : sum6 (wg_up C 36 r u 36) + FoR (C 36) r = sum6 (C 36) + u.toInt.toNat := by
  have e : FoR (wg_up C 36 r u 36) = upN (FoR (C 36)) r u.toInt.toNat := by
    funext x
    unfold FoR upN
    by_cases e : x = r
    · rw [if_pos e, e, up_s]
    · rw [if_neg e, up_k _ _ e]
  unfold sum6
  rw [e]
  have : r = 0 ∨ r = 1 ∨ r = 2 ∨ r = 3 ∨ r = 4 ∨ r = 5 := by omega
  rcases this with rfl | rfl | rfl | rfl | rfl | rfl <;> simp only [upN] <;> simp <;> omega
theorem Rch.wait {P : Nat → Nat → Nat → Prop} {w : Nat → Nat → Nat} {s0 x : Nat} (h : Rch P w s0 x) (hx : x < 192) (hd : x % 32 + 1 < 32) : Rch P w s0 (x + 1) := by
  obtain ⟨n, a, b, h⟩ := h
  exact ⟨n + 1, a, b + 1, x, hx, Or.inl ⟨b, rfl, h, hd, rfl⟩⟩
theorem Rch.waits {P : Nat → Nat → Nat → Prop} {w : Nat → Nat → Nat} {s0 r a : Nat} (h : Rch P w s0 (32 * r + a)) (hr : r < 6) : ∀ d, a ≤ d → d < 32 → Rch P w s0 (32 * r + d)
  | 0, h1, h2 => by
    have : a = 0 := by omega
    rw [this] at h
    exact h
  | d + 1, h1, h2 => by
    by_cases e : a = d + 1
    · rw [← e]; exact h
    · exact (Rch.waits h hr d (by omega) (by omega)).wait (by omega) (by omega)
theorem Rch.pane {P : Nat → Nat → Nat → Prop} {w : Nat → Nat → Nat} {s0 x p y : Nat} (h : Rch P w s0 x) (hx : x < 192) (hp : P p x y) : Rch P w s0 y := by
  obtain ⟨n, a, b, h⟩ := h
  exact ⟨n + 1, a + w p x, b, x, hx, Or.inr ⟨p, a, rfl, h, hp⟩⟩
/-- while first days come down -/
def ReI (P : Nat → Nat → Nat → Prop) (s0 : Nat) (C D : wg_C) : Prop := (∀ a k, a ≠ 36 → D a k = C a k) ∧ (∀ r, r < 6 → 0 ≤ (D 36 r).toInt ∧ (D 36 r).toInt ≤ 32) ∧ FoR (D 36) (s0 / 32) ≤ s0 % 32 ∧ ∀ r, r < 6 → FoR (D 36) r < 32 → Rch P (fun _ _ => 1) s0 (32 * r + FoR (D 36) r)
def ReC (C : wg_C) (o : Int32) (blk : Nat → Bool) (k : Nat) (F : Nat → Nat) : Prop := ∀ p, p < k → blk p = false → ∀ d, F (C (4 + p) 4).toInt.toNat ≤ d → d < 32 → passP C (4 + p) (Int32.ofNat d) o = true → F (leadP C (4 + p)).toNatClampNeg ≤ (onP C (4 + p) (Int32.ofNat d)).toNatClampNeg
theorem s8_passAll {np : Nat} {C D : wg_C} {M : wg_M} {o s : Int32} {s0 : Nat} (h : IHo np C M) (hD : ReI (GP C np o (bkV s)) s0 C D) : ∃ v E, f_X7_passAll NN D o s = some (v, E) ∧ ReI (GP C np o (bkV s)) s0 C E ∧ ((v = 0 ∧ E = D ∧ ReC C o (bkV s) np (FoR (D 36))) ∨ (v = 1 ∧ sum6 (E 36) < sum6 (D 36))) := by
  have h8 := h.1
  unfold f_X7_passAll
  obtain ⟨⟨E, v, z⟩, e1, e2, e3⟩ := lp_ok (b := fun (q : wg_C × Int32 × Int32) => f_X7_passAll_l6 NN o s q.1 q.2.1 q.2.2) (fun q => ReI (GP C np o (bkV s)) s0 C q.1 ∧ ∃ k, k ≤ np ∧ q.2.2 = Int32.ofNat k ∧ ((q.2.1 = 0 ∧ q.1 = D ∧ ReC C o (bkV s) k (FoR (D 36))) ∨ (q.2.1 = 1 ∧ sum6 (q.1 36) < sum6 (D 36)))) (fun q => np - q.2.2.toInt.toNat) (fun q => ReI (GP C np o (bkV s)) s0 C q.1 ∧ ((q.2.1 = 0 ∧ q.1 = D ∧ ReC C o (bkV s) np (FoR (D 36))) ∨ (q.2.1 = 1 ∧ sum6 (q.1 36) < sum6 (D 36)))) (by
    rintro ⟨E, v, z⟩ ⟨⟨j1, j2, j3, j4⟩, k, hk, e1, j5⟩
    simp only at j1 j2 j3 j4 e1 j5
    subst e1
    have hn : E 1 2 = Int32.ofNat np := by rw [j1 _ _ (by decide)]; exact oN_eq h.2.1
    have hμ : ¬ np ≤ k → np - (Int32.ofNat k + 1).toInt.toNat < np - (Int32.ofNat k).toInt.toNat := fun _ => by
      rw [oN_s, oN_t (by omega), oN_t (by omega)]
      omega
    simp only [f_X7_passAll_l6, hn, oN_le (show k < 2147483648 by omega) (show np < 2147483648 by omega), lt_eq]
    by_cases g : np ≤ k
    · right
      rw [if_pos g]
      have : k = np := by omega
      subst this
      exact ⟨_, rfl, ⟨j1, j2, j3, j4⟩, j5⟩
    · left
      have hk' : k < np := by omega
      rw [if_neg g, ck_pos (oN_inb (show k < 8 by omega) (by decide)), oN_cl (show k < 2147483648 by omega)]
      have hP := h.2.2.2.2.2 k hk'
      have hCE : ∀ j, E (4 + k) j = C (4 + k) j := fun j => j1 _ j (by omega)
      obtain ⟨r, hr, hr6⟩ : ∃ r : Nat, (C (4 + k) 4).toInt = r ∧ r < 6 := by
        have := hP.2.2.2.2.2.2.2.2.1
        exact ⟨(C (4 + k) 4).toInt.toNat, by omega, by omega⟩
      have hrC : C (4 + k) 4 = Int32.ofNat r := oN_eq hr
      have skip : (bkV s k = false → ∀ d, FoR (E 36) r ≤ d → d < 32 → passP C (4 + k) (Int32.ofNat d) o = true → FoR (E 36) (leadP C (4 + k)).toNatClampNeg ≤ (onP C (4 + k) (Int32.ofNat d)).toNatClampNeg) → ∃ y, (some (Sum.inl (E, v, Int32.ofNat k + 1)) : Option ((wg_C × Int32 × Int32) ⊕ (wg_C × Int32 × Int32))) = some (.inl y) ∧ (ReI (GP C np o (bkV s)) s0 C y.1 ∧ ∃ k, k ≤ np ∧ y.2.2 = Int32.ofNat k ∧ ((y.2.1 = 0 ∧ y.1 = D ∧ ReC C o (bkV s) k (FoR (D 36))) ∨ (y.2.1 = 1 ∧ sum6 (y.1 36) < sum6 (D 36)))) ∧ np - y.2.2.toInt.toNat < np - (Int32.ofNat k).toInt.toNat := fun hno => by
        refine ⟨_, rfl, ⟨⟨j1, j2, j3, j4⟩, k + 1, by omega, oN_s k, ?_⟩, hμ g⟩
        rcases j5 with ⟨a1, a2, a3⟩ | a1
        · refine Or.inl ⟨a1, a2, fun p hp hb d h1 h2 h3 => ?_⟩
          by_cases e : p = k
          · subst e
            rw [hr] at h1
            rw [a2] at hno
            exact hno hb d h1 h2 h3
          · exact a3 p (by omega) hb d h1 h2 h3
        · exact Or.inr a1
      by_cases g1 : s >>> (Int32.ofNat k &&& 31) &&& 1 = 0
      · have hb : bkV s k = false := by unfold bkV; simp [g1]
        rw [if_pos g1]
        simp only [hCE 4, hrC]
        rw [ck_pos (oN_inb hr6 (by decide)), oN_cl (show r < 2147483648 by omega)]
        have br := j2 r hr6
        have er : E 36 r = Int32.ofNat (FoR (E 36) r) := by
          rw [i_eq, oN_t (by unfold FoR; omega)]
          unfold FoR
          omega
        obtain ⟨f, f1, f2⟩ := s8_firstOut (D := E) (o := o) h hk' hCE (a := FoR (E 36) r) (by unfold FoR; omega)
        rw [← er] at f1
        have hl : leadP E (4 + k) = leadP C (4 + k) := by unfold leadP; rw [hCE, hCE, hCE]
        have hlr := lead_rg h hk'
        have hl6 := cl_lt hlr
        rw [f1, bd_eq, p8_leads, bd_eq, hl, ck_pos (inb_of hlr (Nat.le_refl _)), bd_eq, ck_pos (inb_of hlr (Nat.le_refl _))]
        have bl := j2 _ hl6
        have hf : f ≤ 32 := by rcases f2 with ⟨a, _⟩ | ⟨a, _⟩ <;> omega
        have g2 : E 36 (leadP C (4 + k)).toNatClampNeg ≤ Int32.ofNat f ↔ FoR (E 36) (leadP C (4 + k)).toNatClampNeg ≤ f := by
          rw [i_le, oN_t (by omega)]
          unfold FoR
          omega
        by_cases g3 : FoR (E 36) (leadP C (4 + k)).toNatClampNeg ≤ f
        · rw [if_pos (g2.mpr g3)]
          refine skip (fun _ d h1 h2 h3 => ?_)
          rcases f2 with ⟨a, b⟩ | ⟨a, d', b1, b2, b3, b4, b5⟩
          · exact absurd h3 (b d h1 h2)
          · exact Nat.le_trans g3 (b5 d h1 h2 h3)
        · rw [if_neg (fun z => g3 (g2.mp z))]
          rcases f2 with ⟨a, b⟩ | ⟨a, d', b1, b2, b3, b4, b5⟩
          · exfalso
            unfold FoR at g3
            omega
          have hsum := sum6_up E hl6 (Int32.ofNat f)
          rw [oN_t (by omega), Int.toNat_natCast] at hsum
          have hF : ∀ x, FoR (wg_up E 36 (leadP C (4 + k)).toNatClampNeg (Int32.ofNat f) 36) x = if x = (leadP C (4 + k)).toNatClampNeg then f else FoR (E 36) x := fun x => by
            unfold FoR
            by_cases e : x = (leadP C (4 + k)).toNatClampNeg
            · rw [if_pos e, e, up_s, oN_t (by omega), Int.toNat_natCast]
            · rw [if_neg e, up_k _ _ e]
          refine ⟨_, rfl, ⟨⟨fun a' j q => (up_r _ _ _ _ q).trans (j1 a' j q), fun x hx => ?_, ?_, fun x hx hxr => ?_⟩, k + 1, by omega, oN_s k, Or.inr ⟨rfl, ?_⟩⟩, hμ g⟩
          · show 0 ≤ (wg_up E 36 _ _ 36 x).toInt ∧ (wg_up E 36 _ _ 36 x).toInt ≤ 32
            by_cases e : x = (leadP C (4 + k)).toNatClampNeg
            · rw [e, up_s, oN_t (by omega)]
              omega
            · rw [up_k _ _ e]
              exact j2 x hx
          · show FoR (wg_up E 36 _ _ 36) (s0 / 32) ≤ s0 % 32
            rw [hF]
            by_cases e : s0 / 32 = (leadP C (4 + k)).toNatClampNeg
            · rw [if_pos e]
              rw [e] at j3
              omega
            · rw [if_neg e]
              exact j3
          · show Rch _ _ _ (32 * x + FoR (wg_up E 36 _ _ 36) x)
            replace hxr : FoR (wg_up E 36 (leadP C (4 + k)).toNatClampNeg (Int32.ofNat f) 36) x < 32 := hxr
            rw [hF] at hxr ⊢
            by_cases e : x = (leadP C (4 + k)).toNatClampNeg
            · rw [if_pos e, e, b4]
              have q1 : (32 * r + d') / 32 = r := by omega
              have q2 : (32 * r + d') % 32 = d' := by omega
              exact ((j4 r hr6 (by omega)).waits hr6 d' b1 b2).pane (p := k) (by omega) ⟨hk', hb, by rw [q1]; exact hr, by rw [q2]; exact b3, by rw [q2]⟩
            · rw [if_neg e] at hxr ⊢
              exact j4 x hx hxr
          · show sum6 (wg_up E 36 (leadP C (4 + k)).toNatClampNeg (Int32.ofNat f) 36) < sum6 (D 36)
            rcases j5 with ⟨a1, a2, a3⟩ | ⟨a1, a2⟩
            · rw [← a2]
              omega
            · omega
      · rw [if_neg g1]
        exact skip (fun z => by unfold bkV at z; simp [g1] at z)) NN (D, 0, 0) ⟨hD, 0, by omega, rfl, Or.inl ⟨rfl, rfl, fun p hp => absurd hp (Nat.not_lt_zero _)⟩⟩ (by have := NN_big; show np - _ < NN; omega)
  rw [e1, bd3_eq]
  simp only at e2 e3
  rw [ck_pos (e3.imp (fun z => z.1) (fun z => z.1))]
  exact ⟨v, E, rfl, e2, e3⟩
theorem ReC.rch {np : Nat} {C : wg_C} {M : wg_M} {o s : Int32} {s0 : Nat} {F : Nat → Nat} (h : IHo np C M) (hC : ReC C o (bkV s) np F) (h0 : F (s0 / 32) ≤ s0 % 32) : ∀ n x a b, Wk (GP C np o (bkV s)) (fun _ _ => 1) s0 n x a b → F (x / 32) ≤ x % 32
  | 0, x, a, b, hw => by
    obtain ⟨rfl, _⟩ := hw
    exact h0
  | n + 1, y, a, b, hw => by
    obtain ⟨x, hx, ⟨b', rfl, hw, hd, rfl⟩ | ⟨p, a', rfl, hw, hp⟩⟩ := hw
    · have := ReC.rch h hC h0 n x a b' hw
      have e1 : (x + 1) / 32 = x / 32 := by omega
      have e2 : (x + 1) % 32 = x % 32 + 1 := by omega
      rw [e1, e2]
      omega
    · have := ReC.rch h hC h0 n x a' b hw
      obtain ⟨p1, p2, p3, p4, p5⟩ := hp
      have q := hC p p1 p2 (x % 32) (by rw [p3]; exact this) (by omega) p4
      have l2 := cl_lt (pass_on p4)
      have e1 : y / 32 = (leadP C (4 + p)).toNatClampNeg := by omega
      have e2 : y % 32 = (onP C (4 + p) (Int32.ofNat (x % 32))).toNatClampNeg := by omega
      rw [e1, e2]
      exact q
theorem s8_reach {np : Nat} {C : wg_C} {M : wg_M} {o s : Int32} {s0 : Nat} (h : IHo np C M) (hs0 : s0 < 192) : ∃ D, f_X7_reach NN C (Int32.ofNat s0) o s = some D ∧ (∀ a k, a ≠ 36 → D a k = C a k) ∧ (∀ r, r < 6 → 0 ≤ (D 36 r).toInt ∧ (D 36 r).toInt ≤ 32) ∧ ∀ r d, r < 6 → d < 32 → (FoR (D 36) r ≤ d ↔ Rch (GP C np o (bkV s)) (fun _ _ => 1) s0 (32 * r + d)) := by
  unfold f_X7_reach
  obtain ⟨e1, e2⟩ := oN_32 hs0
  rw [s8_fill _ _ _ _ (by omega), bd_eq, e2, e1, ck_pos (oN_inb (show s0 / 32 < 6 by omega) (by decide)), oN_cl (show s0 / 32 < 2147483648 by omega), lt_eq]
  have hA : ∀ x, x < 6 → wg_up (rowC C 36 0 6 (fun _ => 32)) 36 (s0 / 32) (Int32.ofNat (s0 % 32)) 36 x = if x = s0 / 32 then Int32.ofNat (s0 % 32) else 32 := fun x hx => by
    by_cases e : x = s0 / 32
    · rw [if_pos e, e, up_s]
    · rw [if_neg e, up_k _ _ e, rowC_in (by omega) (by omega)]
  have b32 : ∀ x, x < 6 → 0 ≤ (wg_up (rowC C 36 0 6 (fun _ => 32)) 36 (s0 / 32) (Int32.ofNat (s0 % 32)) 36 x).toInt ∧ (wg_up (rowC C 36 0 6 (fun _ => 32)) 36 (s0 / 32) (Int32.ofNat (s0 % 32)) 36 x).toInt ≤ 32 := fun x hx => by
    rw [hA x hx]
    by_cases e : x = s0 / 32
    · rw [if_pos e, oN_t (by omega)]; omega
    · rw [if_neg e, show (32 : Int32).toInt = 32 from rfl]; omega
  have k1 : ReI (GP C np o (bkV s)) s0 C (wg_up (rowC C 36 0 6 (fun _ => 32)) 36 (s0 / 32) (Int32.ofNat (s0 % 32))) := by
    refine ⟨fun a j q => ?_, b32, ?_, fun x hx hxr => ?_⟩
    · rw [up_r _ _ _ _ q, rowC_ne q]
    · unfold FoR
      rw [hA _ (by omega), if_pos rfl, oN_t (by omega), Int.toNat_natCast]
      exact Nat.le_refl _
    · unfold FoR at hxr ⊢
      rw [hA x hx] at hxr ⊢
      by_cases e : x = s0 / 32
      · rw [if_pos e, oN_t (by omega), Int.toNat_natCast, show 32 * x + s0 % 32 = s0 by omega]
        exact ⟨0, 0, 0, rfl, rfl, rfl⟩
      · rw [if_neg e, show (32 : Int32).toInt = 32 from rfl] at hxr
        exact absurd hxr (by decide)
  have ks : sum6 (wg_up (rowC C 36 0 6 (fun _ => 32)) 36 (s0 / 32) (Int32.ofNat (s0 % 32)) 36) ≤ 192 := by
    unfold sum6 FoR
    have z0 := b32 0 (by omega)
    have z1 := b32 1 (by omega)
    have z2 := b32 2 (by omega)
    have z3 := b32 3 (by omega)
    have z4 := b32 4 (by omega)
    have z5 := b32 5 (by omega)
    omega
  obtain ⟨⟨D, v, z⟩, u1, u2, u3⟩ := lp_ok (b := fun (q : wg_C × Int32 × Int32) => f_X7_reach_l28 NN o s q.1 q.2.1 q.2.2) (fun q => ReI (GP C np o (bkV s)) s0 C q.1 ∧ ∃ k, k ≤ 193 ∧ q.2.2 = Int32.ofNat k ∧ ((q.2.1 = 0 ∧ ReC C o (bkV s) np (FoR (q.1 36))) ∨ (q.2.1 = 1 ∧ sum6 (q.1 36) + k ≤ 192))) (fun q => 194 - q.2.2.toInt.toNat) (fun q => ReI (GP C np o (bkV s)) s0 C q.1 ∧ ReC C o (bkV s) np (FoR (q.1 36))) (by
    rintro ⟨E, v, z⟩ ⟨j1, k, hk, e1, j5⟩
    simp only at j1 e1 j5
    subst e1
    have g0 : (192 : Int32) < Int32.ofNat k ↔ 192 < k := oN_lt (show k < 2147483648 by omega) (show 192 < 2147483648 by omega)
    simp only [f_X7_reach_l28, g0, lt_eq]
    by_cases g : 192 < k
    · right
      rw [if_pos g]
      rcases j5 with ⟨a1, a2⟩ | ⟨a1, a2⟩
      · exact ⟨_, rfl, j1, a2⟩
      · omega
    · rw [if_neg g]
      rcases j5 with ⟨rfl, a2⟩ | ⟨rfl, a2⟩
      · right
        rw [if_pos rfl]
        exact ⟨_, rfl, j1, a2⟩
      · left
        rw [if_neg (by decide)]
        obtain ⟨v, F, v1, v2, v3⟩ := s8_passAll h j1
        rw [v1, bd2_eq]
        refine ⟨_, rfl, ⟨v2, k + 1, by omega, oN_s k, ?_⟩, ?_⟩
        · rcases v3 with ⟨b1, b2, b3⟩ | ⟨b1, b2⟩
          · refine Or.inl ⟨b1, ?_⟩
            show ReC C o (bkV s) np (FoR (F 36))
            rw [b2]
            exact b3
          · refine Or.inr ⟨b1, ?_⟩
            show sum6 (F 36) + (k + 1) ≤ 192
            omega
        · show 194 - (Int32.ofNat k + 1).toInt.toNat < 194 - (Int32.ofNat k).toInt.toNat
          rw [oN_s, oN_t (by omega), oN_t (by omega)]
          omega) NN (wg_up (rowC C 36 0 6 (fun _ => 32)) 36 (s0 / 32) (Int32.ofNat (s0 % 32)), 1, 0) ⟨k1, 0, by omega, rfl, Or.inr ⟨rfl, ks⟩⟩ (by have := NN_big; show 194 - _ < NN; omega)
  rw [u1, bd3_eq]
  simp only at u2 u3
  refine ⟨D, rfl, u2.1, u2.2.1, fun r d hr hd => ⟨fun z => (u2.2.2.2 r hr (by omega)).waits hr d z hd, ?_⟩⟩
  rintro ⟨n, a, b, hw⟩
  have := ReC.rch h u3 u2.2.2.1 n _ a b hw
  rwa [show (32 * r + d) / 32 = r by omega, show (32 * r + d) % 32 = d by omega] at this
