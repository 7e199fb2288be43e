def FoR (f : Nat → Int32) : Nat → Nat := fun x => (f x).toInt.toNat
def Bd (f : Nat → Int32) (R : Nat) : Prop := ∀ x, x < 192 → 0 ≤ (f x).toInt ∧ (f x).toInt ≤ R
/-- a pane from a spot to a spot -/
def GP (B : wg_C) (np : Nat) (o : Int32) (blk : Nat → Bool) (p x y : Nat) : Prop := p < np ∧ blk p = false ∧ (B (4 + p) 4).toInt = (x / 32 : Nat) ∧ passP B (4 + p) (Int32.ofNat (x % 32)) o = true ∧ y = 32 * (leadP B (4 + p)).toNatClampNeg + (onP B (4 + p) (Int32.ofNat (x % 32))).toNatClampNeg
def bkV (s : Int32) (p : Nat) : Bool := decide (¬ (s >>> (Int32.ofNat p &&& 31)) &&& 1 = 0)
theorem lead_rg {np : Nat} {B : wg_C} {M : wg_M} (h : IHo np B M) {p : Nat} (hp : p < np) : rg 6 (leadP B (4 + p)) = true := by
  have z := (h.2.2.2.2.2 p hp).2.2.2.2.2
  unfold PRg at z
  rw [rg_iff]
  unfold leadP leadV
  split <;> omega
theorem gp_y {np : Nat} {B : wg_C} {M : wg_M} (h : IHo np B M) {p : Nat} (hp : p < np) {d : Int32} (hd : rg 32 (onP B (4 + p) d) = true) : (32 : Int32) * leadP B (4 + p) + onP B (4 + p) d = Int32.ofNat (32 * (leadP B (4 + p)).toNatClampNeg + (onP B (4 + p) d).toNatClampNeg) ∧ leadP B (4 + p) * 32 + onP B (4 + p) d = Int32.ofNat (32 * (leadP B (4 + p)).toNatClampNeg + (onP B (4 + p) d).toNatClampNeg) ∧ 32 * (leadP B (4 + p)).toNatClampNeg + (onP B (4 + p) d).toNatClampNeg < 192 := by
  have h1 := lead_rg h hp
  have l1 := cl_lt h1
  have l2 := cl_lt hd
  have c1 := i_cl (leadP B (4 + p))
  have c2 := i_cl (onP B (4 + p) d)
  rw [rg_iff] at h1 hd
  generalize leadP B (4 + p) = l at *
  generalize onP B (4 + p) d = e at *
  have q := oN_t (show 32 * l.toNatClampNeg + e.toNatClampNeg < 2147483648 by omega)
  clear h hp
  refine ⟨?_, ?_, by omega⟩
  · rw [i_eq, i_add, i_mul, show (32 : Int32).toInt = 32 from rfl, q]
    omega
  · rw [i_eq, i_add, i_mul, show (32 : Int32).toInt = 32 from rfl, q]
    omega
theorem GP.wgt {np : Nat} {B : wg_C} {M : wg_M} (h : IHo np B M) {o : Int32} {blk : Nat → Bool} {w : Nat → Nat → Nat} {m : Nat} (hw : ∀ p x, p < np → 1 ≤ w p x ∧ w p x ≤ m) : Wgt (GP B np o blk) w m := by
  intro p x y ⟨h1, h2, h3, h4, h5⟩
  have := gp_y h h1 (pass_on h4)
  exact ⟨by omega, hw p x h1⟩
theorem FoR_up (M : wg_M) (y : Nat) (u : Int32) : FoR ((wg_sM M 65 y u).1 65) = upN (FoR (M.1 65)) y u.toInt.toNat := by
  funext x
  unfold FoR upN
  by_cases e : x = y
  · rw [if_pos e, e, sM_s]
  · rw [if_neg e, sM_k _ _ e]
theorem Bd.up {M : wg_M} {R : Nat} (h : Bd (M.1 65) R) {y : Nat} {u : Int32} (h0 : 0 ≤ u.toInt) (h1 : u.toInt ≤ R) : Bd ((wg_sM M 65 y u).1 65) R := by
  intro x hx
  by_cases e : x = y
  · rw [e, sM_s]; exact ⟨h0, h1⟩
  · rw [sM_k _ _ e]; exact h x hx
theorem s9_eases (M : wg_M) {y : Nat} (hy : y < 192) (u : Int32) (hu : 0 ≤ u.toInt) (hM : 0 ≤ (M.1 65 y).toInt) : f_X9_eases M (Int32.ofNat y) u = some (if u.toInt.toNat < FoR (M.1 65) y then (1, wg_sM M 65 y u) else (0, M)) := by
  unfold f_X9_eases FoR
  rw [ck_pos (oN_inb hy (by decide)), ck_pos (oN_inb hy (by decide)), oN_cl (by omega)]
  simp only [i_lt, lt_eq]
  by_cases g : u.toInt < (M.1 65 y).toInt
  · rw [if_pos g, if_pos (by omega)]
  · rw [if_neg g, if_neg (by omega)]
/-- what stays while it spreads -/
def GoI (P : Nat → Nat → Nat → Prop) (w : Nat → Nat → Nat) (s0 K R : Nat) (M L : wg_M) : Prop := (∀ a k, a ≠ 65 → L.1 a k = M.1 a k) ∧ Bd (L.1 65) R ∧ Ach P w s0 K R (FoR (L.1 65))
/-- the words of a spreading -/
def SpI (B : wg_C) (np : Nat) (o x3 s : Int32) (w : Nat → Nat → Nat) (K R : Nat) (M : wg_M) : Prop := IHo np B M ∧ rg 3 o = true ∧ M.1 55 14 = s ∧ (∀ p x, p < np → x < 192 → (if x3 = 0 then (10000 : Int32) else M.1 66 (32 * p + x % 32)).toInt = ((K * w p x : Nat) : Int) ∧ K * w p x ≤ 10000 ∧ 1 ≤ K * w p x) ∧ R ≤ 1000000000
theorem oN_32 {x : Nat} (hx : x < 192) : Int32.ofNat x / 32 = Int32.ofNat (x / 32) ∧ Int32.ofNat x - Int32.ofNat x / 32 * 32 = Int32.ofNat (x % 32) := by
  have e : (Int32.ofNat x / 32).toInt = (x / 32 : Nat) := by
    rw [i_divp _ _ (by rw [oN_t (by omega)]; omega) (by decide), oN_t (by omega)]
    rfl
  constructor
  · rw [i_eq, e, oN_t (by omega)]
  · rw [i_eq, i_sub, i_mul, e, oN_t (by omega), oN_t (by omega), show (32 : Int32).toInt = 32 from rfl]
    omega
theorem oN_66 {k x : Nat} (hk : k < 8) : (32 : Int32) * Int32.ofNat k + Int32.ofNat (x % 32) = Int32.ofNat (32 * k + x % 32) := by
  have e1 : ((32 : Int32) * Int32.ofNat k).toInt = (32 * k : Nat) := by
    rw [i_mul, oN_t (by omega), show (32 : Int32).toInt = 32 from rfl]
    omega
  rw [i_eq, i_add, e1, oN_t (by omega), oN_t (by omega)]
  omega
theorem i_addN {a b : Int32} {m n : Nat} (ha : a.toInt = m) (hb : b.toInt = n) (h : m + n < 2147483648) : (a + b).toInt = (m + n : Nat) := by
  rw [i_add, ha, hb]
  omega
theorem go_panes {B : wg_C} {np : Nat} {o x3 s : Int32} {w : Nat → Nat → Nat} {s0 K R : Nat} {M : wg_M} (h : SpI B np o x3 s w K R M) {x : Nat} (hx : x < 192) {M1 : wg_M} (h1 : GoI (GP B np o (bkV s)) w s0 K R M M1) (hr : FoR (M1.1 65) x < R) {r0 : Int32} (hr0 : r0 = 0 ∨ r0 = 1) : ∃ r M2, f_X9_goesOn_j42 NN M1 (Int32.ofNat x) o x3 (Int32.ofNat (x / 32)) (Int32.ofNat (x % 32)) r0 = some (r, M2) ∧ GoI (GP B np o (bkV s)) w s0 K R M M2 ∧ ((r = 0 ∧ r0 = 0 ∧ M2 = M1 ∧ ∀ p y, GP B np o (bkV s) p x y → FoR (M1.1 65) y ≤ FoR (M1.1 65) x + K * w p x) ∨ (r = 1 ∧ ((r0 = 1 ∧ sumN (FoR (M2.1 65)) 192 ≤ sumN (FoR (M1.1 65)) 192) ∨ sumN (FoR (M2.1 65)) 192 < sumN (FoR (M1.1 65)) 192))) := by
  obtain ⟨i1, i2, i3, i4, i5⟩ := h
  have h8 := i1.1
  unfold f_X9_goesOn_j42
  obtain ⟨⟨M2, r, k⟩, e1, e2, e3, e4⟩ := lp_ok (b := fun (q : wg_M × Int32 × Int32) => f_X9_goesOn_l47 NN (Int32.ofNat x) o x3 (Int32.ofNat (x / 32)) (Int32.ofNat (x % 32)) q.1 q.2.1 q.2.2) (fun q => GoI (GP B np o (bkV s)) w s0 K R M q.1 ∧ FoR (q.1.1 65) x < R ∧ ∃ k, k ≤ np ∧ q.2.2 = Int32.ofNat k ∧ ((q.2.1 = 0 ∧ r0 = 0 ∧ q.1 = M1 ∧ ∀ p y, p < k → GP B np o (bkV s) p x y → FoR (M1.1 65) y ≤ FoR (M1.1 65) x + K * w p x) ∨ (q.2.1 = 1 ∧ ((r0 = 1 ∧ sumN (FoR (q.1.1 65)) 192 ≤ sumN (FoR (M1.1 65)) 192) ∨ sumN (FoR (q.1.1 65)) 192 < sumN (FoR (M1.1 65)) 192)))) (fun q => np - q.2.2.toInt.toNat) (fun q => GoI (GP B np o (bkV s)) w s0 K R M q.1 ∧ (q.2.1 = 0 ∨ q.2.1 = 1) ∧ ((q.2.1 = 0 ∧ r0 = 0 ∧ q.1 = M1 ∧ ∀ p y, p < np → GP B np o (bkV s) p x y → FoR (M1.1 65) y ≤ FoR (M1.1 65) x + K * w p x) ∨ (q.2.1 = 1 ∧ ((r0 = 1 ∧ sumN (FoR (q.1.1 65)) 192 ≤ sumN (FoR (M1.1 65)) 192) ∨ sumN (FoR (q.1.1 65)) 192 < sumN (FoR (M1.1 65)) 192)))) (by
    rintro ⟨M', v, z⟩ ⟨⟨j1, j2, j3⟩, jr, k, hk, e2, j4⟩
    simp only at j1 j2 j3 jr e2 j4
    subst e2
    have hI : IHo np B M' := i1.keep (fun _ _ _ => rfl) (fun a j q q' => j1 a j (by omega)) (j1 _ _ (by decide))
    have hn : M'.1 55 13 = Int32.ofNat np := by rw [hI.2.2.1]; exact oN_eq hI.2.1
    have hb : M'.1 55 14 = s := by rw [j1 _ _ (by decide)]; exact i3
    have hμ : ¬ np ≤ k → np - (Int32.ofNat k + 1).toInt.toNat < np - (Int32.ofNat k).toInt.toNat := fun _ => by
      rw [oN_s, oN_t (by omega), oN_t (by omega)]
      omega
    simp only [f_X9_goesOn_l47, hn, hb, oN_le (show k < 2147483648 by omega) (show np < 2147483648 by omega)]
    by_cases g : np ≤ k
    · right
      rw [if_pos g]
      have : k = np := by omega
      subst this
      exact ⟨_, rfl, ⟨j1, j2, j3⟩, j4.imp (fun z => z.1) (fun z => z.1), j4⟩
    · left
      rw [if_neg g]
      have hk' : k < np := by omega
      have hp : rg np (Int32.ofNat k) = true := oN_rg hk' (by omega)
      have ck : (Int32.ofNat k).toNatClampNeg = k := oN_cl (by omega)
      -- nothing passes
      have skip : (∀ y, ¬ GP B np o (bkV s) k x y) → ∃ y, (some (Sum.inl (M', v, Int32.ofNat k + 1)) : Option ((wg_M × Int32 × Int32) ⊕ (wg_M × Int32 × Int32))) = some (.inl y) ∧ (GoI (GP B np o (bkV s)) w s0 K R M y.1 ∧ FoR (y.1.1 65) x < R ∧ ∃ k, k ≤ np ∧ y.2.2 = Int32.ofNat k ∧ ((y.2.1 = 0 ∧ r0 = 0 ∧ y.1 = M1 ∧ ∀ p z, p < k → GP B np o (bkV s) p x z → FoR (M1.1 65) z ≤ FoR (M1.1 65) x + K * w p x) ∨ (y.2.1 = 1 ∧ ((r0 = 1 ∧ sumN (FoR (y.1.1 65)) 192 ≤ sumN (FoR (M1.1 65)) 192) ∨ sumN (FoR (y.1.1 65)) 192 < sumN (FoR (M1.1 65)) 192)))) ∧ np - y.2.2.toInt.toNat < np - (Int32.ofNat k).toInt.toNat := fun hno => by
        refine ⟨_, rfl, ⟨⟨j1, j2, j3⟩, jr, k + 1, by omega, oN_s k, ?_⟩, hμ g⟩
        rcases j4 with ⟨a1, a2, a3, a4⟩ | a1
        · refine Or.inl ⟨a1, a2, a3, fun p z hp hz => ?_⟩
          by_cases e : p = k
          · subst e; exact absurd hz (hno z)
          · exact a4 p z (by omega) hz
        · exact Or.inr a1
      by_cases g1 : s >>> (Int32.ofNat k &&& 31) &&& 1 = 0
      · rw [if_pos g1, ck_pos (oN_inb (show k < 8 by omega) (by decide)), ck]
        have hroom : M'.1 63 k = B (4 + k) 4 := (hI.2.2.2.2.2 k hk').2.2.2.1
        rw [hroom]
        by_cases g2 : B (4 + k) 4 = Int32.ofNat (x / 32)
        · rw [if_pos g2, p9_pass hI hp _ o i2, bd_eq, if_bI, ck]
          by_cases g3 : passP B (4 + k) (Int32.ofNat (x % 32)) o = true
          · rw [if_pos g3, p9_leads hI hp, bd_eq, p9_on hI hp, bd_eq, ck]
            obtain ⟨y1, y2, y3⟩ := gp_y hI hk' (pass_on g3)
            have hP : GP B np o (bkV s) k x (32 * (leadP B (4 + k)).toNatClampNeg + (onP B (4 + k) (Int32.ofNat (x % 32))).toNatClampNeg) := ⟨hk', by unfold bkV; simp [g1], by rw [g2, oN_t (by omega)], g3, rfl⟩
            obtain ⟨c1, c2, c3⟩ := i4 k x hk' hx
            generalize hyy : 32 * (leadP B (4 + k)).toNatClampNeg + (onP B (4 + k) (Int32.ofNat (x % 32))).toNatClampNeg = yy at y1 y3 hP
            have bx := j2 x hx
            have byy := j2 yy y3
            have fx : (FoR (M'.1 65) x : Int) = (M'.1 65 x).toInt := by unfold FoR; omega
            have fy : (FoR (M'.1 65) yy : Int) = (M'.1 65 yy).toInt := by unfold FoR; omega
            have e66 := oN_66 (k := k) (x := x) (by omega)
            rw [ck_pos (oN_inb hx (by decide)), oN_cl (show x < 2147483648 by omega), y1, e66, ck_pos (oN_inb (show 32 * k + x % 32 < 256 by omega) (by decide)), oN_cl (show 32 * k + x % 32 < 2147483648 by omega), j1 66 _ (by decide)]
            -- the step, whatever it is
            have main : ∀ st : Int32, st.toInt = ((K * w k x : Nat) : Int) → ∃ y, f_X9_goesOn_j140l47 NN M' (Int32.ofNat x) o x3 (Int32.ofNat (x / 32)) (Int32.ofNat (x % 32)) v (Int32.ofNat k) st (M'.1 65 x) (Int32.ofNat yy) = some (.inl y) ∧ (GoI (GP B np o (bkV s)) w s0 K R M y.1 ∧ FoR (y.1.1 65) x < R ∧ ∃ k, k ≤ np ∧ y.2.2 = Int32.ofNat k ∧ ((y.2.1 = 0 ∧ r0 = 0 ∧ y.1 = M1 ∧ ∀ p z, p < k → GP B np o (bkV s) p x z → FoR (M1.1 65) z ≤ FoR (M1.1 65) x + K * w p x) ∨ (y.2.1 = 1 ∧ ((r0 = 1 ∧ sumN (FoR (y.1.1 65)) 192 ≤ sumN (FoR (M1.1 65)) 192) ∨ sumN (FoR (y.1.1 65)) 192 < sumN (FoR (M1.1 65)) 192)))) ∧ np - y.2.2.toInt.toNat < np - (Int32.ofNat k).toInt.toNat := fun st hst => by
              have eu : (M'.1 65 x + st).toInt = ((FoR (M'.1 65) x + K * w k x : Nat) : Int) := i_addN fx.symm hst (by clear j4; omega)
              have eu' : (M'.1 65 x + st).toInt.toNat = FoR (M'.1 65) x + K * w k x := by rw [eu]; exact Int.toNat_natCast _
              unfold f_X9_goesOn_j140l47
              rw [s9_eases M' y3 _ (by rw [eu]; exact Int.natCast_nonneg _) byy.1, eu']
              by_cases g4 : FoR (M'.1 65) x + K * w k x < FoR (M'.1 65) yy
              · rw [if_pos g4, bd2_eq, if_neg (by decide)]
                have hsum := sumN_up (FoR (M'.1 65)) (y := yy) (v := FoR (M'.1 65) x + K * w k x) (n := 192) y3
                refine ⟨_, rfl, ⟨⟨fun a j q => (sM_r _ _ _ _ q).trans (j1 a j q), j2.up (by rw [eu]; exact Int.natCast_nonneg _) (by rw [eu]; clear j4; omega), ?_⟩, ?_, k + 1, by omega, oN_s k, Or.inr ⟨rfl, ?_⟩⟩, hμ g⟩
                · show Ach _ _ _ _ _ (FoR ((wg_sM M' 65 yy (M'.1 65 x + st)).1 65))
                  rw [FoR_up, eu']
                  exact j3.pane hx jr hP g4
                · show FoR ((wg_sM M' 65 yy (M'.1 65 x + st)).1 65) x < R
                  rw [FoR_up, eu']
                  by_cases e : x = yy
                  · rw [e, upN_s, ← e]
                    rw [← e] at g4
                    exact absurd g4 (by clear j4; omega)
                  · rw [upN_k _ _ e]; exact jr
                · show (r0 = 1 ∧ sumN (FoR ((wg_sM M' 65 yy (M'.1 65 x + st)).1 65)) 192 ≤ _) ∨ sumN (FoR ((wg_sM M' 65 yy (M'.1 65 x + st)).1 65)) 192 < _
                  rw [FoR_up, eu']
                  right
                  rcases j4 with ⟨a1, a2, a3, a4⟩ | ⟨a1, a2 | a2⟩
                  · rw [← a3]; omega
                  · omega
                  · omega
              · rw [if_neg g4, bd2_eq, if_pos rfl]
                rcases j4 with ⟨a1, a2, a3, a4⟩ | ⟨a1, a2⟩
                · rw [if_pos a1]
                  refine ⟨_, rfl, ⟨⟨j1, j2, j3⟩, jr, k + 1, by omega, oN_s k, Or.inl ⟨rfl, a2, a3, fun p z hp hz => ?_⟩⟩, hμ g⟩
                  by_cases e : p = k
                  · subst e
                    have : z = yy := by rw [hz.2.2.2.2]; exact hyy
                    rw [this, ← a3]
                    omega
                  · exact a4 p z (by omega) hz
                · rw [if_neg (by rw [a1]; decide)]
                  exact ⟨_, rfl, ⟨⟨j1, j2, j3⟩, jr, k + 1, by omega, oN_s k, Or.inr ⟨rfl, a2⟩⟩, hμ g⟩
            by_cases g5 : x3 = 0
            · rw [if_pos g5]
              rw [if_pos g5] at c1
              exact main _ c1
            · rw [if_neg g5]
              rw [if_neg g5] at c1
              exact main _ c1
          · rw [if_neg g3]
            exact skip (fun y z => g3 z.2.2.2.1)
        · rw [if_neg g2]
          exact skip (fun y z => g2 ((i_eq _ _).mpr (by rw [z.2.2.1, oN_t (by omega)])))
      · rw [if_neg g1]
        exact skip (fun y z => by have := z.2.1; unfold bkV at this; simp [g1] at this)) NN (M1, r0, 0) ⟨h1, hr, 0, by omega, rfl, by
      rcases hr0 with e | e
      · exact Or.inl ⟨e, e, rfl, fun p y hp => absurd hp (Nat.not_lt_zero _)⟩
      · exact Or.inr ⟨e, Or.inl ⟨e, Nat.le_refl _⟩⟩⟩ (by have := NN_big; show np - _ < NN; omega)
  rw [e1]
  simp only at e2 e3 e4
  refine ⟨r, M2, ?_, e2, ?_⟩
  · rw [bd3_eq, ck_pos e3]
  · rcases e4 with ⟨a1, a2, a3, a4⟩ | a1
    · exact Or.inl ⟨a1, a2, a3, fun p y hp => a4 p y hp.1 hp⟩
    · exact Or.inr a1
