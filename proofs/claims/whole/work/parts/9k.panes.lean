theorem dj_start {P : Nat → Nat → Nat → Prop} {w : Nat → Nat → Nat} {s0 K : Nat} (C : wg_C) (hs0 : s0 < 192) : DjI P w s0 K 1000000000 C (wg_up (rowC (rowC C 37 0 192 (fun _ => 1000000000)) 38 0 192 (fun _ => 0)) 37 s0 0) ∧ ∀ x, x < 192 → wg_up (rowC (rowC C 37 0 192 (fun _ => 1000000000)) 38 0 192 (fun _ => 0)) 37 s0 0 38 x = 0 := by
  have hA : ∀ x, x < 192 → wg_up (rowC (rowC C 37 0 192 (fun _ => 1000000000)) 38 0 192 (fun _ => 0)) 37 s0 0 37 x = if x = s0 then 0 else 1000000000 := fun x hx => by
    by_cases e : x = s0
    · rw [if_pos e, e, up_s]
    · rw [if_neg e, up_k _ _ e, rowC_ne (by decide), rowC_in (by omega) (by omega)]
  refine ⟨⟨fun a j q1 q2 q3 q4 => ?_, fun x hx => ?_, ?_, fun x hx hxr => ?_⟩, fun x hx => ?_⟩
  · rw [up_r _ _ _ _ q3, rowC_ne q4, rowC_ne q3]
  · rw [hA x hx]
    by_cases e : x = s0
    · rw [if_pos e, Int32.toInt_zero]; omega
    · rw [if_neg e, show (1000000000 : Int32).toInt = 1000000000 from rfl]; omega
  · unfold FoR
    rw [hA s0 hs0, if_pos rfl]
    rfl
  · unfold FoR at hxr ⊢
    rw [hA x hx] at hxr ⊢
    by_cases e : x = s0
    · rw [if_pos e]
      exact ⟨0, 0, 0, ⟨e, rfl, rfl⟩, rfl⟩
    · rw [if_neg e, show (1000000000 : Int32).toInt = 1000000000 from rfl] at hxr
      omega
  · rw [up_r _ _ _ _ (by decide), rowC_in (by omega) (by omega)]
theorem s8_search {S : wg_Sh} {np : Nat} {C : wg_C} {M : wg_M} {s0 : Nat} {o : Int32} (h : IHo np C M) (ho : rg 3 o = true) (hs0 : s0 < 192) : ∃ D, f_X7_search NN S C (Int32.ofNat s0) o = some D ∧ flG C D ∧ Bd (D 37) 1000000000 ∧ FinS (GP C np o (bkV 0)) (fun _ _ => 1) s0 1000 1000000000 (FoR (D 37)) := by
  obtain ⟨a1, a2⟩ := dj_start (P := GP C np o (bkV 0)) (w := fun _ _ => 1) (K := 1000) C hs0
  obtain ⟨r, D, e1, e2, e3, e4, e5⟩ := dj_loop (m := 1) (lv_panes (S := S) (s0 := s0) h ho (bkV 0) bkV0) (GP.wgt h (fun p x _ => ⟨Nat.le_refl _, Nat.le_refl _⟩)) (bdy := fun q => f_X7_search_l27 NN S o q.1 q.2) (fun D k => rfl) a1 a2
  unfold f_X7_search
  rw [s8_fill _ _ _ _ (by omega), bd_eq, s8_fill _ _ _ _ (by omega), bd_eq, ck_pos (oN_inb hs0 (by decide)), lt_eq, oN_cl (show s0 < 2147483648 by omega), e1]
  refine ⟨D, ?_, e3, e4, e5⟩
  rcases e2 with rfl | ⟨k, rfl⟩
  · rfl
  · rfl
theorem s8_search1 {S : wg_Sh} {np : Nat} {C : wg_C} {M : wg_M} {s0 : Nat} {o : Int32} {t id nt : Nat} {val : Int32 → Int32 → Int32 → Int32 → Int32 → Int32 → Int32 → Int32} (h : IHo np C M) (ho : rg 3 o = true) (ht : TxI S C M t id val) (ht1 : (C 1 3).toInt = t) (hnt : t < nt) (hnt6 : nt ≤ 6) (h31 : (C 31 1).toInt = nt) (hs0 : s0 < 192) : ∃ D, f_X7_search_i1 NN S C (Int32.ofNat s0) o = some D ∧ flG C D ∧ Bd (D 37) 1000000000 ∧ FinS (GP C np o (bkV 0)) (wC val C) s0 1 1000000000 (FoR (D 37)) := by
  obtain ⟨a1, a2⟩ := dj_start (P := GP C np o (bkV 0)) (w := wC val C) (K := 1) C hs0
  obtain ⟨r, D, e1, e2, e3, e4, e5⟩ := dj_loop (m := 99) (lv_cost (S := S) (s0 := s0) h ho (bkV 0) bkV0 ht ht1 hnt hnt6 h31) (GP.wgt h (fun p x _ => (wC_t val C p x).2)) (bdy := fun q => f_X7_search_i1_l27 NN S o q.1 q.2) (fun D k => rfl) a1 a2
  unfold f_X7_search_i1
  rw [s8_fill _ _ _ _ (by omega), bd_eq, s8_fill _ _ _ _ (by omega), bd_eq, ck_pos (oN_inb hs0 (by decide)), lt_eq, oN_cl (show s0 < 2147483648 by omega), e1]
  refine ⟨D, ?_, e3, e4, e5⟩
  rcases e2 with rfl | ⟨k, rfl⟩
  · rfl
  · rfl
theorem FoR_t {f : Nat → Int32} {R x : Nat} (h : Bd f R) (hx : x < 192) : (f x).toInt = (FoR f x : Nat) ∧ FoR f x ≤ R := by
  have := h x hx
  unfold FoR
  omega
theorem i_divN {a : Int32} {m n : Nat} (ha : a.toInt = m) {b : Int32} (hb : b.toInt = n) (hn : 0 < n) : (a / b).toInt = (m / n : Nat) := by
  rw [i_divp _ _ (by omega) (by omega), ha, hb]
  exact (Int.natCast_ediv m n).symm
theorem i_modN {a : Int32} {m n : Nat} (ha : a.toInt = m) {b : Int32} (hb : b.toInt = n) (hn : 0 < n) : (a - a / b * b).toInt = (m % n : Nat) := by
  have h1 := i_up a
  have h2 := i_divN ha hb hn
  have h3 : ((m / n : Nat) : Int) * n + (m % n : Nat) = m := by
    rw [← Int.natCast_mul, ← Int.natCast_add]
    congr 1
    exact Nat.div_add_mod' m n
  have h4 : (0 : Int) ≤ (m / n : Nat) * n := by
    rw [← Int.natCast_mul]
    exact Int.natCast_nonneg _
  rw [i_sub, i_mul, h2, hb, ha]
  generalize ((m / n : Nat) : Int) * n = q at *
  omega
theorem wInv.gl {S : wg_Sh} {C D : wg_C} {M L : wg_M} (h : wInv S C M) (hC : flG C D) (hM : ∀ a k, a ≠ 65 → a ≠ 66 → (a ≠ 55 ∨ k ≤ 14 ∨ 30 ≤ k) → L.1 a k = M.1 a k) : wInv S D L := h.keep hC.keep (fun a k q => hM a k (by unfold pM at q; omega) (by unfold pM at q; omega) (by unfold pM at q; omega))
theorem h_panes : H_panes wInv := by
  intro S C M h hw p q o w
  obtain ⟨hs, np, nt, h1, h2, h3, h4, h5, h6, h7⟩ := id h
  have hno : ∃ (r : Int32) (C1 : wg_C) (M1 : wg_M), (some (-2, C) : Option (Int32 × wg_C)) = some (r, C1) ∧ (some (-2, M) : Option (Int32 × wg_M)) = some (r, M1) ∧ wInv S C1 M1 := ⟨_, _, _, rfl, rfl, h⟩
  unfold f_X8_panes f_X9_panes
  rw [show f_X9_in w.toInt64 0 1 = some (bI (rg 2 w = true)) from s_inr w 1 2 rfl]
  simp only [s8_isSpot, s9_isSpot, s8_isSort, s9_isSort, bd_eq, if_bI]
  by_cases g1 : rg 192 p = true
  case neg => rw [if_neg g1, if_neg g1]; exact hno
  by_cases g2 : rg 192 q = true
  case neg => rw [if_pos g1, if_pos g1, if_neg g2, if_neg g2]; exact hno
  by_cases g3 : rg 3 o = true
  case neg => rw [if_pos g1, if_pos g1, if_pos g2, if_pos g2, if_neg g3, if_neg g3]; exact hno
  rw [if_pos g1, if_pos g1, if_pos g2, if_pos g2, if_pos g3, if_pos g3]
  have qw := rg_iff 2 w
  by_cases g4 : rg 2 w = true
  case neg =>
    have qw : ¬ (0 ≤ w.toInt ∧ w.toInt < 2) := fun z => g4 (qw.mpr z)
    rw [if_neg g4]
    by_cases y : w < 0
    · rw [if_pos y]; exact hno
    · rw [if_neg y, if_neg (by rw [i_lt, Int32.toInt_zero] at y; rw [i_le, Int32.toInt_one]; omega)]; exact hno
  have qw := qw.mp g4
  rw [if_pos g4, if_neg (by rw [i_lt, Int32.toInt_zero]; omega), if_pos (by rw [i_le, Int32.toInt_one]; omega)]
  obtain ⟨s0, hs0, rfl⟩ := rg_oN g1
  obtain ⟨x, hx, rfl⟩ := rg_oN g2
  obtain ⟨D, d1, d2, d3, d4⟩ := s8_search (S := S) h1 g3 hs0
  obtain ⟨L, l1, l2, l3, l4⟩ := s9_spreads0 h1 g3 hs0
  rw [h6] at l4
  rw [d1, l1, bd_eq, bd_eq, ck_pos (oN_inb hx (by decide)), ck_pos (oN_inb hx (by decide)), ck_pos (oN_inb hx (by decide)), ck_pos (oN_inb hx (by decide)), oN_cl (show x < 2147483648 by omega), lt_eq]
  obtain ⟨k1, k2⟩ := d4.eqK l4 (m := 1) (GP.wgt h1 (fun p x _ => ⟨Nat.le_refl _, Nat.le_refl _⟩)) (by decide) (by decide) hx
  obtain ⟨f1, f2⟩ := FoR_t d3 hx
  obtain ⟨f3, f4⟩ := FoR_t l3 hx
  have hI := h.gl d2 (fun a k z _ _ => l2 a k z)
  have c1 : D 37 x < 1000000000 ↔ FoR (D 37) x < 1000000000 := by
    rw [i_lt, f1, show (1000000000 : Int32).toInt = 1000000000 from rfl]
    omega
  have c2 : L.1 65 x = 99999999 ↔ ¬ FoR (L.1 65) x < 99999999 := by
    rw [i_eq, f3, show (99999999 : Int32).toInt = 99999999 from rfl]
    omega
  by_cases g5 : FoR (D 37) x < 1000000000
  · rw [if_pos (c1.mpr g5), if_neg (fun z => c2.mp z (k1.mp g5))]
    obtain ⟨a, b, e1, e2, e3⟩ := k2 g5
    have z1 : D 37 x / 1000 = L.1 65 x / 10000 := by
      rw [i_eq, i_divN (n := 1000) f1 rfl (by decide), i_divN (n := 10000) f3 rfl (by decide), e2, e3]
      omega
    have z2 : D 37 x - D 37 x / 1000 * 1000 = L.1 65 x - L.1 65 x / 10000 * 10000 := by
      rw [i_eq, i_modN (n := 1000) f1 rfl (by decide), i_modN (n := 10000) f3 rfl (by decide), e2, e3]
      omega
    by_cases y : w = 0
    · rw [if_pos y, if_pos y, z1]
      exact ⟨_, _, _, rfl, rfl, hI⟩
    · rw [if_neg y, if_neg y, z2]
      exact ⟨_, _, _, rfl, rfl, hI⟩
  · rw [if_neg (fun z => g5 (c1.mp z)), if_pos (c2.mpr (fun z => g5 (k1.mpr z)))]
    exact ⟨_, _, _, rfl, rfl, hI⟩
theorem h_cost : H_cost wInv := by
  intro S C M h hw p q o
  obtain ⟨np, nt, t, id', val, f1, f2, f3, f4, f5, f6, f7, f8, f9⟩ := h.fl
  have h6 : M.1 55 14 = 0 := by
    obtain ⟨hs, np, nt, h1, h2, h3, h4, h5, h6, h7⟩ := id h
    exact h6
  have hno : ∃ (r : Int32) (C1 : wg_C) (M1 : wg_M), (some (-2, C) : Option (Int32 × wg_C)) = some (r, C1) ∧ (some (-2, M) : Option (Int32 × wg_M)) = some (r, M1) ∧ wInv S C1 M1 := ⟨_, _, _, rfl, rfl, h⟩
  unfold f_X8_cost f_X9_cost
  simp only [s8_isSpot, s9_isSpot, s8_isSort, s9_isSort, bd_eq, if_bI]
  by_cases g1 : rg 192 p = true
  case neg => rw [if_neg g1, if_neg g1]; exact hno
  by_cases g2 : rg 192 q = true
  case neg => rw [if_pos g1, if_pos g1, if_neg g2, if_neg g2]; exact hno
  by_cases g3 : rg 3 o = true
  case neg => rw [if_pos g1, if_pos g1, if_pos g2, if_pos g2, if_neg g3, if_neg g3]; exact hno
  rw [if_pos g1, if_pos g1, if_pos g2, if_pos g2, if_pos g3, if_pos g3]
  obtain ⟨s0, hs0, rfl⟩ := rg_oN g1
  obtain ⟨x, hx, rfl⟩ := rg_oN g2
  obtain ⟨D, d1, d2, d3, d4⟩ := s8_search1 (S := S) f1 g3 f4 f5 f7 f8 f9 hs0
  obtain ⟨L, l1, l2, l3, l4⟩ := s9_spreads1 f1 f4 f6 g3 hs0
  rw [h6] at l4
  rw [d1, l1, bd_eq, bd_eq, ck_pos (oN_inb hx (by decide)), ck_pos (oN_inb hx (by decide)), ck_pos (oN_inb hx (by decide)), ck_pos (oN_inb hx (by decide)), oN_cl (show x < 2147483648 by omega)]
  obtain ⟨k1, k2⟩ := d4.eq1 l4 (m := 99) (GP.wgt f1 (fun p x _ => (wC_t val C p x).2)) (by decide) (by decide) hx
  obtain ⟨u1, u2⟩ := FoR_t d3 hx
  obtain ⟨u3, u4⟩ := FoR_t l3 hx
  have hI := h.gl d2 (fun a k z z' z'' => l2 a k z z' z'')
  have c1 : D 37 x < 1000000000 ↔ FoR (D 37) x < 1000000000 := by
    rw [i_lt, u1, show (1000000000 : Int32).toInt = 1000000000 from rfl]
    omega
  have c2 : L.1 65 x = 99999999 ↔ ¬ FoR (L.1 65) x < 99999999 := by
    rw [i_eq, u3, show (99999999 : Int32).toInt = 99999999 from rfl]
    omega
  by_cases g5 : FoR (D 37) x < 1000000000
  · rw [if_pos (c1.mpr g5), if_neg (fun z => c2.mp z (k1.mp g5))]
    have z1 : D 37 x = L.1 65 x := by
      rw [i_eq, u1, u3, k2 g5]
    rw [z1]
    exact ⟨_, _, _, rfl, rfl, hI⟩
  · rw [if_neg (fun z => g5 (c1.mp z)), if_pos (c2.mpr (fun z => g5 (k1.mpr z)))]
    exact ⟨_, _, _, rfl, rfl, hI⟩
