/-- by which it comes back: of the reference -/
def Bk9 (P : Nat → Nat → Nat → Prop) (G : Nat → Nat) (s k : Nat) (u : Nat) : Prop := ∃ x, x < k ∧ G x < 99999999 ∧ ((x % 32 + 1 < 32 ∧ x + 1 = s ∧ u = G x) ∨ ∃ p, P p x s ∧ u = G x + 10000)
theorem lb_in {np : Nat} {C : wg_C} {L : wg_M} {o : Int32} (h : IHo np C L) (ho : rg 3 o = true) (hB : Bd (L.1 65) 99999999) {s : Nat} (hs : s < 192) {x : Nat} (hx : x < 192) (hG : FoR (L.1 65) x + 10000 < 99999999) {Q : Nat → Prop} {v : Int32} {m : Nat} (hv : v.toInt = m) (hm : MinOf Q 99999999 m) : ∃ q : Int32 × Int32, lp (fun (q : Int32 × Int32) => f_X9_loop_l96 NN L (Int32.ofNat s) o (Int32.ofNat x) (Int32.ofNat (x % 32)) q.1 q.2) NN (v, (0 : Int32)) = some q ∧ ∃ m' : Nat, q.1.toInt = m' ∧ MinOf (fun u => Q u ∨ ∃ p, GP C np o (bkV 0) p x s ∧ u = FoR (L.1 65) x + 10000) 99999999 m' := by
  have h8 := h.1
  refine lp_ok (fun q => ∃ k m', k ≤ np ∧ q.2 = Int32.ofNat k ∧ q.1.toInt = ((m' : Nat) : Int) ∧ MinOf (fun u => Q u ∨ ∃ p, p < k ∧ GP C np o (bkV 0) p x s ∧ u = FoR (L.1 65) x + 10000) 99999999 m') (fun q => np - q.2.toInt.toNat) _ ?_ NN (v, 0) ⟨0, m, by omega, rfl, hv, hm.congr (fun u => ⟨fun z => z.elim id (fun ⟨p, z, _⟩ => absurd z (Nat.not_lt_zero _)), Or.inl⟩)⟩ (by have := NN_big; show np - _ < NN; omega)
  rintro ⟨w, z⟩ ⟨k, m', hk, e1, e2, j⟩
  simp only at e1 e2
  subst e1
  have hn : L.1 55 13 = Int32.ofNat np := by rw [h.2.2.1]; exact oN_eq h.2.1
  have hμ : ¬ np ≤ k → np - (Int32.ofNat k + 1).toInt.toNat < np - (Int32.ofNat k).toInt.toNat := fun _ => by
    rw [oN_s, oN_t (by omega), oN_t (by omega)]
    omega
  simp only [f_X9_loop_l96, hn, oN_le (show k < 2147483648 by omega) (show np < 2147483648 by omega), lt_eq, (oN_32 hx).1]
  by_cases g : np ≤ k
  · right
    rw [if_pos g]
    have : k = np := by omega
    subst this
    exact ⟨_, rfl, m', e2, j.congr (fun u => ⟨fun z => z.elim Or.inl (fun ⟨p, z, z'⟩ => Or.inr ⟨p, z.1, z, z'⟩), fun z => z.elim Or.inl (fun ⟨p, _, z, z'⟩ => Or.inr ⟨p, z, z'⟩)⟩)⟩
  · left
    have hk' : k < np := by omega
    have hp : rg np (Int32.ofNat k) = true := oN_rg hk' (by omega)
    have ck : (Int32.ofNat k).toNatClampNeg = k := oN_cl (by omega)
    rw [if_neg g, ck_pos (oN_inb (show k < 8 by omega) (by decide)), ck]
    have skip : (¬ GP C np o (bkV 0) k x s) → ∃ y, (some (Sum.inl (w, Int32.ofNat k + 1)) : Option ((Int32 × Int32) ⊕ (Int32 × Int32))) = some (.inl y) ∧ (∃ k m', k ≤ np ∧ y.2 = Int32.ofNat k ∧ y.1.toInt = ((m' : Nat) : Int) ∧ MinOf (fun u => Q u ∨ ∃ p, p < k ∧ GP C np o (bkV 0) p x s ∧ u = FoR (L.1 65) x + 10000) 99999999 m') ∧ np - y.2.toInt.toNat < np - (Int32.ofNat k).toInt.toNat := fun hno => by
      refine ⟨_, rfl, ⟨k + 1, m', by omega, oN_s k, e2, j.congr (fun u => ⟨fun z => ?_, fun z => ?_⟩)⟩, hμ g⟩
      · rcases z with z | ⟨p, z1, z2, z3⟩
        · exact Or.inl z
        · by_cases e : p = k
          · subst e; exact absurd z2 hno
          · exact Or.inr ⟨p, by omega, z2, z3⟩
      · rcases z with z | ⟨p, z1, z2, z3⟩
        · exact Or.inl z
        · exact Or.inr ⟨p, by omega, z2, z3⟩
    have hroom : L.1 63 k = C (4 + k) 4 := (h.2.2.2.2.2 k hk').2.2.2.1
    rw [hroom]
    by_cases g1 : C (4 + k) 4 = Int32.ofNat (x / 32)
    · rw [if_pos g1, p9_pass h hp _ o ho, bd_eq, if_bI, ck]
      by_cases g2 : passP C (4 + k) (Int32.ofNat (x % 32)) o = true
      · rw [if_pos g2, p9_leads h hp, bd_eq, p9_on h hp, bd_eq, ck]
        obtain ⟨y1, y2, y3⟩ := gp_y h hk' (pass_on g2)
        rw [y1]
        by_cases g3 : 32 * (leadP C (4 + k)).toNatClampNeg + (onP C (4 + k) (Int32.ofNat (x % 32))).toNatClampNeg = s
        · rw [g3, if_pos rfl, ck_pos (oN_inb hx (by decide)), ck_pos (oN_inb hx (by decide)), oN_cl (show x < 2147483648 by omega)]
          have hG' : GP C np o (bkV 0) k x s := ⟨hk', bkV0 k (by omega), by rw [g1, oN_t (by omega)], g2, g3.symm⟩
          obtain ⟨t1, t2⟩ := FoR_t hB hx
          have hc : (L.1 65 x + 10000).toInt = (FoR (L.1 65) x + 10000 : Nat) := i_addN t1 rfl (by clear j; omega)
          have hif : (if w ≤ L.1 65 x + 10000 then (some (Sum.inl (w, Int32.ofNat k + 1)) : Option ((Int32 × Int32) ⊕ (Int32 × Int32))) else some (Sum.inl (L.1 65 x + 10000, Int32.ofNat k + 1))) = some (Sum.inl (if FoR (L.1 65) x + 10000 < m' then L.1 65 x + 10000 else w, Int32.ofNat k + 1)) := by
            by_cases q : FoR (L.1 65) x + 10000 < m'
            · rw [if_pos q, if_neg (by rw [i_le, hc, e2]; exact fun z => absurd (Int.ofNat_le.mp z) (Nat.not_le.mpr q))]
            · rw [if_neg q, if_pos (by rw [i_le, hc, e2]; exact Int.ofNat_le.mpr (Nat.not_lt.mp q))]
          rw [hif]
          refine ⟨_, rfl, ⟨k + 1, if FoR (L.1 65) x + 10000 < m' then FoR (L.1 65) x + 10000 else m', by omega, oN_s k, ?_, j.add hG (fun u => ⟨fun z => ?_, fun z => ?_⟩)⟩, hμ g⟩
          · show (if _ then _ else _ : Int32).toInt = _
            split
            · exact hc
            · exact e2
          · rcases z with z | ⟨p, z1, z2, z3⟩
            · exact Or.inl (Or.inl z)
            · exact Or.inr z3
          · rcases z with (z | ⟨p, z1, z2, z3⟩) | z
            · exact Or.inl z
            · exact Or.inr ⟨p, by omega, z2, z3⟩
            · exact Or.inr ⟨k, by omega, hG', z⟩
        · rw [if_neg (fun z => g3 (by rw [i_eq, oN_t (by omega), oN_t (by omega)] at z; omega))]
          exact skip (fun z => g3 z.2.2.2.2.symm)
      · rw [if_neg g2]
        exact skip (fun z => g2 z.2.2.2.1)
    · rw [if_neg g1]
      exact skip (fun z => g1 ((i_eq _ _).mpr (by rw [z.2.2.1, oN_t (by omega)])))
theorem s9_back {np : Nat} {C : wg_C} {L : wg_M} {o : Int32} (h : IHo np C L) (ho : rg 3 o = true) (hB : Bd (L.1 65) 99999999) {s : Nat} (hs : s < 192) (hG : ∀ x, x < 192 → FoR (L.1 65) x < 99999999 → FoR (L.1 65) x + 10000 < 99999999) : ∃ q : Int32 × Int32, lp (fun (q : Int32 × Int32) => f_X9_loop_l31 NN L (Int32.ofNat s) o q.1 q.2) NN ((99999999 : Int32), (0 : Int32)) = some q ∧ ∃ m : Nat, q.1.toInt = m ∧ MinOf (Bk9 (GP C np o (bkV 0)) (FoR (L.1 65)) s 192) 99999999 m := by
  refine lp_ok (fun q => ∃ k m, k ≤ 192 ∧ q.2 = Int32.ofNat k ∧ q.1.toInt = ((m : Nat) : Int) ∧ MinOf (Bk9 (GP C np o (bkV 0)) (FoR (L.1 65)) s k) 99999999 m) (fun q => 192 - q.2.toInt.toNat) _ ?_ NN (99999999, 0) ⟨0, 99999999, by omega, rfl, rfl, Or.inl ⟨rfl, fun u ⟨x, z, _⟩ => absurd z (Nat.not_lt_zero _)⟩⟩ (by have := NN_big; show 192 - _ < NN; omega)
  rintro ⟨w, z⟩ ⟨k, m, hk, e1, e2, j⟩
  simp only at e1 e2
  subst e1
  have hμ : ¬ 192 ≤ k → 192 - (Int32.ofNat k + 1).toInt.toNat < 192 - (Int32.ofNat k).toInt.toNat := fun _ => by
    rw [oN_s, oN_t (by omega), oN_t (by omega)]
    omega
  have g0 : (192 : Int32) ≤ Int32.ofNat k ↔ 192 ≤ k := oN_le (show k < 2147483648 by omega) (show 192 < 2147483648 by omega)
  simp only [f_X9_loop_l31, g0, lt_eq]
  by_cases g : 192 ≤ k
  · right
    rw [if_pos g]
    have : k = 192 := by omega
    subst this
    exact ⟨_, rfl, m, e2, j⟩
  · left
    have hx : k < 192 := by omega
    obtain ⟨t1, t2⟩ := FoR_t hB hx
    have c1 : (99999999 : Int32) ≤ L.1 65 k ↔ ¬ FoR (L.1 65) k < 99999999 := by
      rw [i_le, t1, show (99999999 : Int32).toInt = 99999999 from rfl]
      clear j
      omega
    rw [if_neg g, ck_pos (oN_inb hx (by decide)), ck_pos (oN_inb hx (by decide)), ck_pos (oN_inb hx (by decide)), oN_cl (show k < 2147483648 by omega), (oN_32 hx).2]
    by_cases g1 : FoR (L.1 65) k < 99999999
    · rw [if_neg (fun z => c1.mp z g1)]
      -- the panes, behind what the day ahead gave
      have fin : ∀ (Q : Nat → Prop) (v : Int32) (m' : Nat), v.toInt = m' → MinOf Q 99999999 m' → (∀ u, Q u ↔ (Bk9 (GP C np o (bkV 0)) (FoR (L.1 65)) s k u ∨ (k % 32 + 1 < 32 ∧ k + 1 = s ∧ u = FoR (L.1 65) k))) → ∃ y, f_X9_loop_j93l31 NN L (Int32.ofNat s) o v (Int32.ofNat k) (Int32.ofNat (k % 32)) = some (.inl y) ∧ (∃ k m, k ≤ 192 ∧ y.2 = Int32.ofNat k ∧ y.1.toInt = ((m : Nat) : Int) ∧ MinOf (Bk9 (GP C np o (bkV 0)) (FoR (L.1 65)) s k) 99999999 m) ∧ 192 - y.2.toInt.toNat < 192 - (Int32.ofNat k).toInt.toNat := fun Q v m' hv hQ hq => by
        unfold f_X9_loop_j93l31
        obtain ⟨q, u1, m2, u2, u3⟩ := lb_in h ho hB hs hx (hG k hx g1) hv hQ
        rw [u1]
        refine ⟨_, rfl, ⟨k + 1, m2, by omega, oN_s k, u2, u3.congr (fun u => ⟨fun z => ?_, fun z => ?_⟩)⟩, hμ g⟩
        · obtain ⟨x, z1, z2, z3⟩ := z
          by_cases e : x = k
          · subst e
            rcases z3 with z3 | z3
            · exact Or.inl ((hq u).mpr (Or.inr z3))
            · exact Or.inr z3
          · exact Or.inl ((hq u).mpr (Or.inl ⟨x, by omega, z2, z3⟩))
        · rcases z with z | z
          · rcases (hq u).mp z with ⟨x, z1, z2, z3⟩ | z
            · exact ⟨x, by omega, z2, z3⟩
            · exact ⟨k, by omega, g1, Or.inl z⟩
          · exact ⟨k, by omega, g1, Or.inr z⟩
      have g2 : (31 : Int32) ≤ Int32.ofNat (k % 32) ↔ ¬ k % 32 + 1 < 32 := by
        rw [i_le, oN_t (by omega), show (31 : Int32).toInt = 31 from rfl]
        clear j
        omega
      by_cases g3 : k % 32 + 1 < 32
      · rw [if_neg (fun z => g2.mp z g3), oN_s]
        by_cases g4 : k + 1 = s
        · rw [if_pos (by rw [g4])]
          have e4 : w ≤ L.1 65 k ↔ ¬ FoR (L.1 65) k < m := by
            rw [i_le, e2, t1]
            clear j
            omega
          by_cases g5 : FoR (L.1 65) k < m
          · rw [if_neg (fun z => e4.mp z g5)]
            have := j.add (Q' := fun u => Bk9 (GP C np o (bkV 0)) (FoR (L.1 65)) s k u ∨ u = FoR (L.1 65) k) g1 (fun u => Iff.rfl)
            rw [if_pos g5] at this
            exact fin _ _ _ t1 this (fun u => ⟨fun z => z.imp id (fun z => ⟨g3, g4, z⟩), fun z => z.imp id (fun z => z.2.2)⟩)
          · rw [if_pos (e4.mpr g5)]
            have := j.add (Q' := fun u => Bk9 (GP C np o (bkV 0)) (FoR (L.1 65)) s k u ∨ u = FoR (L.1 65) k) g1 (fun u => Iff.rfl)
            rw [if_neg g5] at this
            exact fin _ _ _ e2 this (fun u => ⟨fun z => z.imp id (fun z => ⟨g3, g4, z⟩), fun z => z.imp id (fun z => z.2.2)⟩)
        · rw [if_neg (fun z => g4 (by rw [i_eq, oN_t (by omega), oN_t (by omega)] at z; omega))]
          exact fin _ _ _ e2 j (fun u => ⟨Or.inl, fun z => z.elim id (fun z => absurd z.2.1 g4)⟩)
      · rw [if_pos (g2.mpr g3)]
        exact fin _ _ _ e2 j (fun u => ⟨Or.inl, fun z => z.elim id (fun z => absurd z.1 g3)⟩)
    · rw [if_pos (c1.mpr g1)]
      refine ⟨_, rfl, ⟨k + 1, m, by omega, oN_s k, e2, j.congr (fun u => ⟨fun z => ?_, fun z => ?_⟩)⟩, hμ g⟩
      · obtain ⟨x, z1, z2, z3⟩ := z
        by_cases e : x = k
        · subst e; exact absurd z2 g1
        · exact ⟨x, by omega, z2, z3⟩
      · obtain ⟨x, z1, z2, z3⟩ := z
        exact ⟨x, by omega, z2, z3⟩
theorem h_loop : H_loop wInv := by
  intro S C M h hw p o
  obtain ⟨hs, np, nt, h1, h2, h3, h4, h5, h6, h7⟩ := id h
  have hno : ∃ (r : Int32) (C1 : wg_C) (M1 : wg_M), (some (-2, C) : Option (Int32 × wg_C)) = some (r, C1) ∧ (some (-2, M) : Option (Int32 × wg_M)) = some (r, M1) ∧ wInv S C1 M1 := ⟨_, _, _, rfl, rfl, h⟩
  unfold f_X8_loop f_X9_loop
  simp only [s8_isSpot, s9_isSpot, s8_isSort, s9_isSort, bd_eq, if_bI]
  by_cases g1 : rg 192 p = true
  case neg => rw [if_neg g1, if_neg g1]; exact hno
  by_cases g3 : rg 3 o = true
  case neg => rw [if_pos g1, if_pos g1, if_neg g3, if_neg g3]; exact hno
  rw [if_pos g1, if_pos g1, if_pos g3, if_pos g3]
  obtain ⟨s0, hs0, rfl⟩ := rg_oN g1
  obtain ⟨D, d1, d2, d3, d4⟩ := s8_search (S := S) h1 g3 hs0
  obtain ⟨L, l1, l2, l3, l4⟩ := s9_spreads0 h1 g3 hs0
  rw [h6] at l4
  have hW := GP.wgt (o := o) (blk := bkV 0) h1 (w := fun _ _ => 1) (m := 1) (fun p x _ => ⟨Nat.le_refl _, Nat.le_refl _⟩)
  have hI := h.gl d2 (fun a k z _ _ => l2 a k z)
  have hL : IHo np C L := h1.keep (fun _ _ _ => rfl) (fun a k q q' => l2 a k (by omega)) (l2 _ _ (by decide))
  obtain ⟨v, m8, u1, u2, u3⟩ := s8_fewest h1 g3 d2 d3 hs0
  obtain ⟨⟨v9, z9⟩, w1, m9, w2, w3⟩ := s9_back hL g3 l3 hs0 (fun x hx hr => by have := l4.sm hW (by decide) hx hr; omega)
  simp only at w2
  rw [d1, l1, bd_eq, bd_eq, u1, bd_eq, w1, bd2_eq]
  obtain ⟨k1, k2⟩ := u3.div w3 (fun u hu => by
    rcases hu with ⟨x, z1, z2, z3, z4, z5⟩ | ⟨p, x, z1, z2, z3, z4, z5⟩
    · obtain ⟨a1, a2⟩ := d4.eqK l4 hW (by decide) (by decide) z1
      obtain ⟨a, b, b1, b2, b3⟩ := a2 z4
      exact ⟨_, ⟨x, z1, a1.mp z4, Or.inl ⟨z2, z3, rfl⟩⟩, by rw [z5, b2, b3]; omega⟩
    · obtain ⟨a1, a2⟩ := d4.eqK l4 hW (by decide) (by decide) z2
      obtain ⟨a, b, b1, b2, b3⟩ := a2 z3
      exact ⟨_, ⟨x, z2, a1.mp z3, Or.inr ⟨p, z4, rfl⟩⟩, by rw [z5, b2, b3]; omega⟩) (fun z hz => by
    obtain ⟨x, z1, z2, z3⟩ := hz
    obtain ⟨a1, a2⟩ := d4.eqK l4 hW (by decide) (by decide) z1
    obtain ⟨a, b, b1, b2, b3⟩ := a2 (a1.mpr z2)
    rcases z3 with ⟨z3, z4, z5⟩ | ⟨p, z3, z4⟩
    · exact Or.inl ⟨x, z1, z3, z4, a1.mpr z2, by rw [z5, b2, b3]; omega⟩
    · exact Or.inr ⟨p, x, z3.1, z1, a1.mpr z2, z3, by rw [z4, b2, b3]; omega⟩)
  have b8 := u3.le
  have b9 := w3.le
  have c1 : v < 1000000000 ↔ m8 < 1000000000 := by
    rw [i_lt, u2, show (1000000000 : Int32).toInt = 1000000000 from rfl]
    clear u3 w3
    omega
  have c2 : v9 = 99999999 ↔ ¬ m9 < 99999999 := by
    rw [i_eq, w2, show (99999999 : Int32).toInt = 99999999 from rfl]
    clear u3 w3
    omega
  by_cases g5 : m8 < 1000000000
  · rw [if_pos (c1.mpr g5), if_neg (fun z => c2.mp z (k1.mp g5))]
    have z1 : v = v9 / 10000 := by
      rw [i_eq, u2, i_divN (n := 10000) w2 rfl (by decide), k2 g5]
    rw [z1]
    exact ⟨_, _, _, rfl, rfl, hI⟩
  · rw [if_neg (fun z => g5 (c1.mp z)), if_pos (c2.mpr (fun z => g5 (k1.mpr z)))]
    exact ⟨_, _, _, rfl, rfl, hI⟩
