def MinOf (Q : Nat → Prop) (R v : Nat) : Prop := (v = R ∧ ∀ u, ¬ Q u) ∨ (Q v ∧ v < R ∧ ∀ u, Q u → v ≤ u)
theorem MinOf.le {Q : Nat → Prop} {R v : Nat} (h : MinOf Q R v) : v ≤ R := by
  rcases h with ⟨h, _⟩ | ⟨_, h, _⟩ <;> omega
theorem MinOf.add {Q Q' : Nat → Prop} {R v c : Nat} (h : MinOf Q R v) (hc : c < R) (e : ∀ u, Q' u ↔ (Q u ∨ u = c)) : MinOf Q' R (if c < v then c else v) := by
  rcases h with ⟨h1, h2⟩ | ⟨h1, h2, h3⟩
  · rw [if_pos (by omega)]
    refine Or.inr ⟨(e c).mpr (Or.inr rfl), hc, fun u hu => ?_⟩
    rcases (e u).mp hu with z | z
    · exact absurd z (h2 u)
    · omega
  · by_cases g : c < v
    · rw [if_pos g]
      refine Or.inr ⟨(e c).mpr (Or.inr rfl), hc, fun u hu => ?_⟩
      rcases (e u).mp hu with z | z
      · have := h3 u z
        omega
      · omega
    · rw [if_neg g]
      refine Or.inr ⟨(e v).mpr (Or.inl h1), h2, fun u hu => ?_⟩
      rcases (e u).mp hu with z | z
      · exact h3 u z
      · omega
theorem MinOf.congr {Q Q' : Nat → Prop} {R v : Nat} (h : MinOf Q R v) (e : ∀ u, Q' u ↔ Q u) : MinOf Q' R v := by
  rcases h with ⟨h1, h2⟩ | ⟨h1, h2, h3⟩
  · exact Or.inl ⟨h1, fun u z => h2 u ((e u).mp z)⟩
  · exact Or.inr ⟨(e v).mpr h1, h2, fun u z => h3 u ((e u).mp z)⟩
theorem MinOf.div {Q8 Q9 : Nat → Prop} {R8 R9 v8 v9 : Nat} (h8 : MinOf Q8 R8 v8) (h9 : MinOf Q9 R9 v9) (a : ∀ u, Q8 u → ∃ z, Q9 z ∧ z / 10000 = u) (b : ∀ z, Q9 z → Q8 (z / 10000)) : (v8 < R8 ↔ v9 < R9) ∧ (v8 < R8 → v8 = v9 / 10000) := by
  rcases h8 with ⟨h1, h2⟩ | ⟨h1, h2, h3⟩
  · rcases h9 with ⟨k1, k2⟩ | ⟨k1, k2, k3⟩
    · exact ⟨by omega, fun z => by omega⟩
    · exact absurd (b _ k1) (h2 _)
  · rcases h9 with ⟨k1, k2⟩ | ⟨k1, k2, k3⟩
    · obtain ⟨z, z1, z2⟩ := a _ h1
      exact absurd z1 (k2 z)
    · refine ⟨by omega, fun _ => ?_⟩
      obtain ⟨z, z1, z2⟩ := a _ h1
      have := k3 z z1
      have := h3 _ (b _ k1)
      have : v9 / 10000 ≤ z / 10000 := Nat.div_le_div_right (by assumption)
      omega
/-- by which it comes back: of the class -/
def Bk8 (P : Nat → Nat → Nat → Prop) (F : Nat → Nat) (s k : Nat) (u : Nat) : Prop := (∃ x, x < 192 ∧ x % 32 + 1 < 32 ∧ x + 1 = s ∧ F x < 1000000000 ∧ u = F x / 1000) ∨ ∃ p x, p < k ∧ x < 192 ∧ F x < 1000000000 ∧ P p x s ∧ u = F x / 1000 + 1
theorem oN_r32 {a : Int32} {r d : Nat} (ha : a.toInt = r) (hr : r < 6) (hd : d < 32) : a * 32 + Int32.ofNat d = Int32.ofNat (32 * r + d) ∧ 32 * a + Int32.ofNat d = Int32.ofNat (32 * r + d) := by
  have e1 : (a * 32).toInt = (32 * r : Nat) := by
    rw [i_mul, ha, show (32 : Int32).toInt = 32 from rfl]
    omega
  have e2 : (32 * a).toInt = (32 * r : Nat) := by
    rw [i_mul, ha, show (32 : Int32).toInt = 32 from rfl]
    omega
  constructor
  · rw [i_eq, i_addN e1 (oN_t (show d < 2147483648 by omega)) (by omega), oN_t (by omega)]
  · rw [i_eq, i_addN e2 (oN_t (show d < 2147483648 by omega)) (by omega), oN_t (by omega)]
theorem fb_in {np : Nat} {C D : wg_C} {M : wg_M} {o : Int32} (h : IHo np C M) (ho : rg 3 o = true) (hD : flG C D) (hB : Bd (D 37) 1000000000) {s : Nat} (hs : s < 192) {k : Nat} (hk : k < np) {v : Int32} {m : Nat} (hv : v.toInt = m) (hm : MinOf (Bk8 (GP C np o (bkV 0)) (FoR (D 37)) s k) 1000000000 m) (x5 : Int32) : ∃ q : Int32 × Int32, lp (fun (q : Int32 × Int32) => f_X7_fewestBackTo_l62 NN D (Int32.ofNat s) o x5 (4 + k) q.1 q.2) NN (v, (0 : Int32)) = some q ∧ ∃ m' : Nat, q.1.toInt = m' ∧ MinOf (Bk8 (GP C np o (bkV 0)) (FoR (D 37)) s (k + 1)) 1000000000 m' := by
  have h8 := h.1
  have hP := h.2.2.2.2.2 k hk
  have hvw := hD.vw
  have hCD : ∀ j, D (4 + k) j = C (4 + k) j := fun j => hvw.1 _ j (Or.inr (by omega))
  obtain ⟨r, hr, hr6⟩ : ∃ r : Nat, (C (4 + k) 4).toInt = r ∧ r < 6 := by
    have := hP.2.2.2.2.2.2.2.2.1
    exact ⟨(C (4 + k) 4).toInt.toNat, by omega, by omega⟩
  refine lp_ok (fun q => ∃ d m', d ≤ 32 ∧ q.2 = Int32.ofNat d ∧ q.1.toInt = ((m' : Nat) : Int) ∧ MinOf (fun u => Bk8 (GP C np o (bkV 0)) (FoR (D 37)) s k u ∨ ∃ x, x < 192 ∧ x % 32 < d ∧ FoR (D 37) x < 1000000000 ∧ GP C np o (bkV 0) k x s ∧ u = FoR (D 37) x / 1000 + 1) 1000000000 m') (fun q => 32 - q.2.toInt.toNat) _ ?_ NN (v, 0) ⟨0, m, by omega, rfl, hv, hm.congr (fun u => ⟨fun z => z.elim id (fun ⟨x, _, z, _⟩ => absurd z (Nat.not_lt_zero _)), Or.inl⟩)⟩ (by have := NN_big; show 32 - _ < NN; omega)
  rintro ⟨w, z⟩ ⟨d, m', hd, e1, e2, j⟩
  simp only at e1 e2
  subst e1
  have hμ : ¬ 32 ≤ d → 32 - (Int32.ofNat d + 1).toInt.toNat < 32 - (Int32.ofNat d).toInt.toNat := fun _ => by
    rw [oN_s, oN_t (by omega), oN_t (by omega)]
    omega
  have g0 : (32 : Int32) ≤ Int32.ofNat d ↔ 32 ≤ d := oN_le (show d < 2147483648 by omega) (show 32 < 2147483648 by omega)
  simp only [f_X7_fewestBackTo_l62, g0, lt_eq]
  by_cases g : 32 ≤ d
  · right
    rw [if_pos g]
    have : d = 32 := by omega
    subst this
    refine ⟨_, rfl, m', e2, j.congr (fun u => ?_)⟩
    constructor
    · rintro (z | ⟨p, x, z1, z2, z3, z4, z5⟩)
      · exact Or.inl (Or.inl z)
      · by_cases e : p = k
        · subst e
          exact Or.inr ⟨x, z2, by omega, z3, z4, z5⟩
        · exact Or.inl (Or.inr ⟨p, x, by omega, z2, z3, z4, z5⟩)
    · rintro ((z | ⟨p, x, z1, z2, z3, z4, z5⟩) | ⟨x, z1, z2, z3, z4, z5⟩)
      · exact Or.inl z
      · exact Or.inr ⟨p, x, by omega, z2, z3, z4, z5⟩
      · exact Or.inr ⟨k, x, by omega, z1, z3, z4, z5⟩
  · left
    rw [if_neg g]
    have ec : D (4 + k) 4 * 32 + Int32.ofNat d = Int32.ofNat (32 * r + d) := by rw [hCD]; exact (oN_r32 hr hr6 (by omega)).1
    have hx : 32 * r + d < 192 := by omega
    rw [ec, ck_pos (oN_inb hx (by decide)), oN_cl (show 32 * r + d < 2147483648 by omega)]
    have d1 : (32 * r + d) % 32 = d := by omega
    have d2 : (32 * r + d) / 32 = r := by omega
    obtain ⟨t1, t2⟩ := FoR_t hB hx
    have c1 : (1000000000 : Int32) ≤ D 37 (32 * r + d) ↔ ¬ FoR (D 37) (32 * r + d) < 1000000000 := by
      rw [i_le, t1, show (1000000000 : Int32).toInt = 1000000000 from rfl]
      clear j
      omega
    have one : ∀ x, x < 192 → x % 32 < d + 1 → GP C np o (bkV 0) k x s → x % 32 < d ∨ x = 32 * r + d := fun x _ z1 z2 => by
      have := z2.2.2.1
      rw [hr] at this
      clear j
      omega
    have skip : (¬ (FoR (D 37) (32 * r + d) < 1000000000 ∧ GP C np o (bkV 0) k (32 * r + d) s)) → ∃ y, (some (Sum.inl (w, Int32.ofNat d + 1)) : Option ((Int32 × Int32) ⊕ (Int32 × Int32))) = some (.inl y) ∧ (∃ d m', d ≤ 32 ∧ y.2 = Int32.ofNat d ∧ y.1.toInt = ((m' : Nat) : Int) ∧ MinOf (fun u => Bk8 (GP C np o (bkV 0)) (FoR (D 37)) s k u ∨ ∃ x, x < 192 ∧ x % 32 < d ∧ FoR (D 37) x < 1000000000 ∧ GP C np o (bkV 0) k x s ∧ u = FoR (D 37) x / 1000 + 1) 1000000000 m') ∧ 32 - y.2.toInt.toNat < 32 - (Int32.ofNat d).toInt.toNat := fun hno => by
      refine ⟨_, rfl, ⟨d + 1, m', by omega, oN_s d, e2, j.congr (fun u => ⟨fun z => ?_, fun z => ?_⟩)⟩, hμ g⟩
      · rcases z with z | ⟨x, z1, z2, z3, z4, z5⟩
        · exact Or.inl z
        · rcases one x z1 z2 z4 with e | e
          · exact Or.inr ⟨x, z1, e, z3, z4, z5⟩
          · subst e; exact absurd ⟨z3, z4⟩ hno
      · rcases z with z | ⟨x, z1, z2, z3, z4, z5⟩
        · exact Or.inl z
        · exact Or.inr ⟨x, z1, by omega, z3, z4, z5⟩
    by_cases g1 : FoR (D 37) (32 * r + d) < 1000000000
    · rw [if_neg (fun z => c1.mp z g1)]
      have hp : rg np (Int32.ofNat k) = true := oN_rg hk (by omega)
      have hpass : f_X1_passes D (4 + k) (Int32.ofNat d) o = some (bI (passP C (4 + k) (Int32.ofNat d) o = true)) := by
        rw [s8_passes D _ _ _ (by rw [hCD]; exact hP.2.2.2.2.2.2.1), hCD, hCD, hCD]
        rfl
      have hl : leadP D (4 + k) = leadP C (4 + k) := by unfold leadP; rw [hCD, hCD, hCD]
      have hon : onP D (4 + k) (Int32.ofNat d) = onP C (4 + k) (Int32.ofNat d) := by unfold onP; rw [hCD, hCD, hCD]
      rw [hpass, bd_eq, if_bI]
      by_cases g2 : passP C (4 + k) (Int32.ofNat d) o = true
      · rw [if_pos g2, p8_leads, bd_eq, p8_on, bd_eq, hl, hon]
        obtain ⟨y1, y2, y3⟩ := gp_y h hk (pass_on g2)
        rw [y2]
        by_cases g3 : 32 * (leadP C (4 + k)).toNatClampNeg + (onP C (4 + k) (Int32.ofNat d)).toNatClampNeg = s
        · rw [g3, if_pos rfl]
          have hG : GP C np o (bkV 0) k (32 * r + d) s := ⟨hk, bkV0 k (by omega), by rw [d2]; exact hr, by rw [d1]; exact g2, by rw [d1]; exact g3.symm⟩
          have hdiv : (D 37 (32 * r + d) / 1000).toInt = (FoR (D 37) (32 * r + d) / 1000 : Nat) := i_divN (n := 1000) t1 rfl (by decide)
          have hc : (D 37 (32 * r + d) / 1000 + 1).toInt = (FoR (D 37) (32 * r + d) / 1000 + 1 : Nat) := i_addN hdiv rfl (by clear j; omega)
          have hml := j.le
          have hmin : f_J9_min_7cf53 w (D 37 (32 * r + d) / 1000 + 1) = some (if FoR (D 37) (32 * r + d) / 1000 + 1 < m' then D 37 (32 * r + d) / 1000 + 1 else w) := by
            unfold f_J9_min_7cf53
            by_cases q : FoR (D 37) (32 * r + d) / 1000 + 1 < m'
            · rw [if_pos q, if_pos (by rw [i_lt, hc, e2]; exact Int.ofNat_lt.mpr q)]
            · rw [if_neg q, if_neg (by rw [i_lt, hc, e2]; exact fun z => q (Int.ofNat_lt.mp z))]
          rw [hmin, bd_eq]
          refine ⟨_, rfl, ⟨d + 1, if FoR (D 37) (32 * r + d) / 1000 + 1 < m' then FoR (D 37) (32 * r + d) / 1000 + 1 else m', by omega, oN_s d, ?_, j.add (by clear j; omega) (fun u => ⟨fun z => ?_, fun z => ?_⟩)⟩, hμ g⟩
          · show (if _ then _ else _ : Int32).toInt = _
            split
            · exact hc
            · exact e2
          · rcases z with z | ⟨x, z1, z2, z3, z4, z5⟩
            · exact Or.inl (Or.inl z)
            · rcases one x z1 z2 z4 with e | e
              · exact Or.inl (Or.inr ⟨x, z1, e, z3, z4, z5⟩)
              · subst e; exact Or.inr z5
          · rcases z with (z | ⟨x, z1, z2, z3, z4, z5⟩) | z
            · exact Or.inl z
            · exact Or.inr ⟨x, z1, by omega, z3, z4, z5⟩
            · exact Or.inr ⟨32 * r + d, hx, by omega, g1, hG, z⟩
        · rw [if_neg (fun z => g3 (by rw [i_eq, oN_t (by omega), oN_t (by omega)] at z; omega))]
          exact skip (fun z => g3 (by have := z.2.2.2.2.2; rw [d1] at this; exact this.symm))
      · rw [if_neg g2]
        exact skip (fun z => g2 (by have := z.2.2.2.2.1; rw [d1] at this; exact this))
    · rw [if_pos (c1.mpr g1)]
      exact skip (fun z => g1 z.1)
theorem s8_fewest {np : Nat} {C D : wg_C} {M : wg_M} {o : Int32} (h : IHo np C M) (ho : rg 3 o = true) (hD : flG C D) (hB : Bd (D 37) 1000000000) {s : Nat} (hs : s < 192) : ∃ v m, f_X7_fewestBackTo NN D (Int32.ofNat s) o = some v ∧ v.toInt = ((m : Nat) : Int) ∧ MinOf (Bk8 (GP C np o (bkV 0)) (FoR (D 37)) s np) 1000000000 m := by
  have h8 := h.1
  have fin : ∀ (w : Int32) (m : Nat), w.toInt = m → MinOf (Bk8 (GP C np o (bkV 0)) (FoR (D 37)) s 0) 1000000000 m → ∃ v m, f_X7_fewestBackTo_j38 NN D (Int32.ofNat s) o w = some v ∧ v.toInt = ((m : Nat) : Int) ∧ MinOf (Bk8 (GP C np o (bkV 0)) (FoR (D 37)) s np) 1000000000 m := fun w m hw hm => by
    unfold f_X7_fewestBackTo_j38
    obtain ⟨⟨v, z⟩, e1, m', e2, e3⟩ := lp_ok (b := fun (q : Int32 × Int32) => f_X7_fewestBackTo_l41 NN D (Int32.ofNat s) o q.1 q.2) (fun q => ∃ k m', k ≤ np ∧ q.2 = Int32.ofNat k ∧ q.1.toInt = ((m' : Nat) : Int) ∧ MinOf (Bk8 (GP C np o (bkV 0)) (FoR (D 37)) s k) 1000000000 m') (fun q => np - q.2.toInt.toNat) (fun q => ∃ m', q.1.toInt = ((m' : Nat) : Int) ∧ MinOf (Bk8 (GP C np o (bkV 0)) (FoR (D 37)) s np) 1000000000 m') (by
      rintro ⟨w, z⟩ ⟨k, m', hk, e1, e2, j⟩
      simp only at e1 e2
      subst e1
      have hn : D 1 2 = Int32.ofNat np := by rw [hD.vw.1 1 2 (Or.inl rfl)]; exact oN_eq h.2.1
      simp only [f_X7_fewestBackTo_l41, hn, oN_le (show k < 2147483648 by omega) (show np < 2147483648 by omega), lt_eq]
      by_cases g : np ≤ k
      · right
        rw [if_pos g]
        have : k = np := by omega
        subst this
        exact ⟨_, rfl, m', e2, j⟩
      · left
        rw [if_neg g, ck_pos (oN_inb (show k < 8 by omega) (by decide)), oN_cl (show k < 2147483648 by omega)]
        obtain ⟨q, u1, m2, u2, u3⟩ := fb_in h ho hD hB hs (show k < np by omega) e2 j (Int32.ofNat k)
        rw [u1]
        refine ⟨_, rfl, ⟨k + 1, m2, by omega, oN_s k, u2, u3⟩, ?_⟩
        show np - (Int32.ofNat k + 1).toInt.toNat < np - (Int32.ofNat k).toInt.toNat
        rw [oN_s, oN_t (by omega), oN_t (by omega)]
        omega) NN (w, 0) ⟨0, m, by omega, rfl, hw, hm⟩ (by have := NN_big; show np - _ < NN; omega)
    rw [e1]
    exact ⟨v, m', rfl, e2, e3⟩
  unfold f_X7_fewestBackTo
  obtain ⟨e1, e2⟩ := oN_32 hs
  rw [e2]
  have g0 : Int32.ofNat (s % 32) ≤ 0 ↔ ¬ 0 < s % 32 := by
    rw [i_le, oN_t (by omega), Int32.toInt_zero]
    omega
  have none0 : (¬ ∃ x, x < 192 ∧ x % 32 + 1 < 32 ∧ x + 1 = s ∧ FoR (D 37) x < 1000000000) → MinOf (Bk8 (GP C np o (bkV 0)) (FoR (D 37)) s 0) 1000000000 1000000000 := fun hn => Or.inl ⟨rfl, fun u z => by
    rcases z with ⟨x, z1, z2, z3, z4, z5⟩ | ⟨p, x, z1, z⟩
    · exact hn ⟨x, z1, z2, z3, z4⟩
    · exact absurd z1 (Nat.not_lt_zero _)⟩
  by_cases g : 0 < s % 32
  · rw [if_neg (fun z => g0.mp z g)]
    have e3 : Int32.ofNat s - 1 = Int32.ofNat (s - 1) := by
      rw [i_eq, i_sub, oN_t (by omega), oN_t (by omega), Int32.toInt_one]
      omega
    have hx : s - 1 < 192 := by omega
    rw [e3, ck_pos (oN_inb hx (by decide)), ck_pos (oN_inb hx (by decide)), oN_cl (show s - 1 < 2147483648 by omega), lt_eq]
    obtain ⟨t1, t2⟩ := FoR_t hB hx
    have c1 : (1000000000 : Int32) ≤ D 37 (s - 1) ↔ ¬ FoR (D 37) (s - 1) < 1000000000 := by
      rw [i_le, t1, show (1000000000 : Int32).toInt = 1000000000 from rfl]
      omega
    by_cases g1 : FoR (D 37) (s - 1) < 1000000000
    · rw [if_neg (fun z => c1.mp z g1)]
      refine fin _ (FoR (D 37) (s - 1) / 1000) (i_divN (n := 1000) t1 rfl (by decide)) (Or.inr ⟨Or.inl ⟨s - 1, hx, by omega, by omega, g1, rfl⟩, by omega, fun u z => ?_⟩)
      rcases z with ⟨x, z1, z2, z3, z4, z5⟩ | ⟨p, x, z1, z⟩
      · have : x = s - 1 := by omega
        rw [z5, this]
        exact Nat.le_refl _
      · exact absurd z1 (Nat.not_lt_zero _)
    · rw [if_pos (c1.mpr g1)]
      refine fin _ 1000000000 rfl (none0 ?_)
      rintro ⟨x, z1, z2, z3, z4⟩
      have : x = s - 1 := by omega
      rw [this] at z4
      exact g1 z4
  · rw [if_pos (g0.mpr g)]
    refine fin _ 1000000000 rfl (none0 ?_)
    rintro ⟨x, z1, z2, z3, z4⟩
    omega
