theorem sumV_up {f : Nat → Int32} {k : Nat} {v : Int32} : ∀ {n : Nat}, k < n → sumV (fun j => if j = k then f j + v else f j) n = sumV f n + v
  | 0, h => absurd h (Nat.not_lt_zero _)
  | n + 1, h => by
    unfold sumV
    by_cases e : k = n
    · subst e
      rw [sumV_congr (g := f) (fun j hj => if_neg (by omega)), if_pos rfl, Int32.add_assoc]
    · rw [sumV_up (n := n) (by omega), if_neg (fun z => e z.symm), Int32.add_assoc, Int32.add_assoc, Int32.add_comm v]
theorem sumV_0 : ∀ n, sumV (fun _ => 0) n = 0
  | 0 => rfl
  | n + 1 => by
    unfold sumV
    rw [sumV_0 n]
    rfl
/-- what a flood needs of both sides -/
def FlI (S : wg_Sh) (B D : wg_C) (M : wg_M) (np nt q t id : Nat) (val : Int32 → Int32 → Int32 → Int32 → Int32 → Int32 → Int32 → Int32) : Prop := IHo np B M ∧ vwC B D q ∧ (q ≠ 33 ∧ q ≠ 34 ∧ q ≠ 41) ∧ TxI S D M t id val ∧ (D 1 3).toInt = t ∧ (M.1 55 4).toInt = t ∧ t < nt ∧ nt ≤ 6 ∧ (D 31 1).toInt = nt
/-- only the words that a flood may write differ -/
def flC (D E : wg_C) : Prop := ∀ a k, a ≠ 33 → a ≠ 34 → a ≠ 41 → E a k = D a k
def flM (M L : wg_M) : Prop := ∀ a k, (a ≠ 55 ∨ k ≤ 14 ∨ 30 ≤ k) → a ≠ 67 → L.1 a k = M.1 a k
theorem FlI.keep {S : wg_Sh} {B D E : wg_C} {M L : wg_M} {np nt q t id : Nat} {val : Int32 → Int32 → Int32 → Int32 → Int32 → Int32 → Int32 → Int32} (h : FlI S B D M np nt q t id val) (hD : flC D E) (hM : flM M L) : FlI S B E L np nt q t id val := by
  obtain ⟨h1, ⟨h2a, h2b⟩, h3, h4, h5, h6, h7, h8, h9⟩ := h
  refine ⟨h1.keep (fun a k _ => rfl) (fun a k z z' => hM a k (by omega) (by omega)) (hM 55 13 (by omega) (by omega)), ⟨fun a k z => ?_, fun d hd => ?_⟩, h3, h4.keep (fun a k z => hD a k (by omega) (by omega) (by omega)) (fun k => hM 56 k (by omega) (by omega)) (fun k => hM 57 k (by omega) (by omega)), ?_, ?_, h7, h8, ?_⟩
  · rw [hD a k (by omega) (by omega) (by omega)]; exact h2a a k z
  · rw [hD q d h3.1 h3.2.1 h3.2.2]; exact h2b d hd
  · rw [hD 1 3 (by omega) (by omega) (by omega)]; exact h5
  · rw [hM 55 4 (by omega) (by omega)]; exact h6
  · rw [hD 31 1 (by omega) (by omega) (by omega)]; exact h9
theorem flC.tr {C D E : wg_C} (h : flC C D) (k : flC D E) : flC C E := fun a i q q' q'' => (k a i q q' q'').trans (h a i q q' q'')
theorem flM.tr {C D E : wg_M} (h : flM C D) (k : flM D E) : flM C E := fun a i q q' => (k a i q q').trans (h a i q q')
theorem FlI.says {S : wg_Sh} {B D : wg_C} {M : wg_M} {np nt q t id : Nat} {val : Int32 → Int32 → Int32 → Int32 → Int32 → Int32 → Int32 → Int32} (h : FlI S B D M np nt q t id val) {p : Int32} (hp : rg np p = true) (d : Int32) {w : Int32} (hw : rg 3 w = true) : ∃ D1 M1, f_X3_worth NN S D (D 1 3) w (4 + p.toNatClampNeg) d q 32 = some (saysV val B p d w, D1) ∧ f_X9_says NN M w p d = some (saysV val B p d w, M1) ∧ (∀ a k, a ≠ 33 → a ≠ 34 → D1 a k = D a k) ∧ ∀ a k, a ≠ 55 ∨ k ≤ 14 ∨ 30 ≤ k → M1.1 a k = M.1 a k := by
  obtain ⟨h1, h2, h3, h4, h5, h6, h7, h8, h9⟩ := h
  obtain ⟨D1, d1, d2⟩ := worth8 (N := M) h1 h2 h3.1 h4 h5 h7 h8 h9 hp d hw
  obtain ⟨M1, m1, m2⟩ := says9 h1 h4 h6 hp d hw
  exact ⟨D1, M1, d1, m1, d2, m2⟩
/-- the water of a pane, day by day -/
theorem fl_in {S : wg_Sh} {B : wg_C} {np nt q t id : Nat} {val : Int32 → Int32 → Int32 → Int32 → Int32 → Int32 → Int32 → Int32} {D : wg_C} {M : wg_M} (h : FlI S B D M np nt q t id val) (hw : ∀ d, d < 32 → D 41 d = M.1 67 d) (r : Int32) {k : Nat} (hk : k < np) : ∃ E L, lp (fun (o : wg_C × Int32 × Int32) => f_X8_flood_l40 NN S q 32 r (Int32.ofNat k) (4 + (Int32.ofNat k).toNatClampNeg) o.1 o.2.1 o.2.2) NN (D, sumV (D 41) 32, (0 : Int32)) = some E ∧ lp (fun (o : wg_M × Int32) => f_X9_rains_l33 NN r (Int32.ofNat k) o.1 o.2) NN (M, (0 : Int32)) = some L ∧ FlI S B E.1 L.1 np nt q t id val ∧ (∀ d, d < 32 → E.1 41 d = L.1.1 67 d) ∧ E.2.1 = sumV (E.1 41) 32 ∧ flC D E.1 ∧ flM M L.1 := by
  have h8 := h.1.1
  have hp : rg np (Int32.ofNat k) = true := oN_rg hk (by omega)
  have hB : ∀ (E : wg_C), vwC B E q → leadP E (4 + (Int32.ofNat k).toNatClampNeg) = leadP B (4 + (Int32.ofNat k).toNatClampNeg) := fun E hE => by
    have hl := cl_lt hp
    unfold leadP
    rw [hE.1 _ _ (by omega), hE.1 _ _ (by omega), hE.1 _ _ (by omega)]
  have g32 : ∀ j : Nat, j ≤ 32 → ((32 : Int32) ≤ Int32.ofNat j ↔ ¬ j < 32) := fun j hj => by
    rw [show (32 : Int32) = Int32.ofNat 32 from rfl, oN_le (by omega) (by omega)]
    omega
  by_cases g : leadP B (4 + (Int32.ofNat k).toNatClampNeg) = r
  · obtain ⟨E, L, e1, e2, e3⟩ := lp_rel (b := fun (o : wg_C × Int32 × Int32) => f_X8_flood_l40 NN S q 32 r (Int32.ofNat k) (4 + (Int32.ofNat k).toNatClampNeg) o.1 o.2.1 o.2.2) (c := fun (o : wg_M × Int32) => f_X9_rains_l33 NN r (Int32.ofNat k) o.1 o.2) (fun x y => FlI S B x.1 y.1 np nt q t id val ∧ (∀ d, d < 32 → x.1 41 d = y.1.1 67 d) ∧ x.2.1 = sumV (x.1 41) 32 ∧ flC D x.1 ∧ flM M y.1 ∧ ∃ j, j ≤ 32 ∧ x.2.2 = Int32.ofNat j ∧ y.2 = Int32.ofNat j) (fun x => 32 - x.2.2.toInt.toNat) (fun E L => FlI S B E.1 L.1 np nt q t id val ∧ (∀ d, d < 32 → E.1 41 d = L.1.1 67 d) ∧ E.2.1 = sumV (E.1 41) 32 ∧ flC D E.1 ∧ flM M L.1) (by
      rintro ⟨C', v, x⟩ ⟨M', x'⟩ ⟨i1, i2, i3, i4, i5, j, hj, e1, e2⟩
      simp only at i1 i2 i3 i4 i5 e1 e2
      subst e1 e2 i3
      have hl := cl_lt hp
      have hpass : passP C' (4 + (Int32.ofNat k).toNatClampNeg) (Int32.ofNat j) 2 = passP B (4 + (Int32.ofNat k).toNatClampNeg) (Int32.ofNat j) 2 := by
        unfold passP
        rw [i1.2.1.1 _ _ (by omega), i1.2.1.1 _ _ (by omega), i1.2.1.1 _ _ (by omega)]
      have hpn : 0 ≤ (C' (4 + (Int32.ofNat k).toNatClampNeg) 2).toInt ∧ (C' (4 + (Int32.ofNat k).toNatClampNeg) 2).toInt ≤ 9 := by
        rw [i1.2.1.1 _ _ (by omega)]
        exact i1.1.pn hp
      have z8 : f_X1_passes C' (4 + (Int32.ofNat k).toNatClampNeg) (Int32.ofNat j) 2 = some (bI (passP B (4 + (Int32.ofNat k).toNatClampNeg) (Int32.ofNat j) 2 = true)) := by
        rw [s8_passes C' _ _ _ hpn]
        rw [← hpass]
        rfl
      have hμ : 32 - (Int32.ofNat j + 1).toInt.toNat < 32 - (Int32.ofNat j).toInt.toNat ∨ ¬ j < 32 := by
        by_cases z : j < 32
        · left
          rw [oN_s, oN_t (by omega), oN_t (by omega)]
          omega
        · exact Or.inr z
      simp only [f_X8_flood_l40, f_X9_rains_l33, g32 j hj, p8_leads, hB C' i1.2.1, p9_leads i1.1 hp, z8, p9_pass i1.1 hp _ 2 (by decide), bd_eq, if_bI, lt_eq]
      by_cases gj : j < 32
      · have hμ := hμ.resolve_right (fun z => z gj)
        left
        rw [if_neg (show ¬ ¬ j < 32 from fun z => z gj), if_neg (show ¬ ¬ j < 32 from fun z => z gj), if_pos g, if_pos g]
        by_cases gp : passP B (4 + (Int32.ofNat k).toNatClampNeg) (Int32.ofNat j) 2 = true
        · rw [if_pos gp, if_pos gp]
          obtain ⟨D1, M1, d1, m1, d2, m2⟩ := i1.says hp (Int32.ofNat j) (w := 1) (by decide)
          have hon : onP D1 (4 + (Int32.ofNat k).toNatClampNeg) (Int32.ofNat j) = onP B (4 + (Int32.ofNat k).toNatClampNeg) (Int32.ofNat j) := by
            unfold onP
            rw [d2 _ _ (by omega) (by omega), d2 _ _ (by omega) (by omega), d2 _ _ (by omega) (by omega), i1.2.1.1 _ _ (by omega), i1.2.1.1 _ _ (by omega), i1.2.1.1 _ _ (by omega)]
          have hr := pass_on gp
          have hi := inb_of hr (Nat.le_refl _)
          have hc := cl_lt hr
          simp only [d1, m1, bd2_eq, p8_on, hon, p9_on i1.1 hp, bd_eq, ck_pos hi]
          have f1 : flC C' (wg_up D1 41 (onP B (4 + (Int32.ofNat k).toNatClampNeg) (Int32.ofNat j)).toNatClampNeg (D1 41 (onP B (4 + (Int32.ofNat k).toNatClampNeg) (Int32.ofNat j)).toNatClampNeg + saysV val B (Int32.ofNat k) (Int32.ofNat j) 1)) := fun a b q1 q2 q3 => by
            rw [up_r _ _ _ _ q3]
            exact d2 a b q1 q2
          have f2 : flM M' (wg_sM M1 67 (onP B (4 + (Int32.ofNat k).toNatClampNeg) (Int32.ofNat j)).toNatClampNeg (M'.1 67 (onP B (4 + (Int32.ofNat k).toNatClampNeg) (Int32.ofNat j)).toNatClampNeg + saysV val B (Int32.ofNat k) (Int32.ofNat j) 1)) := fun a b q1 q2 => by
            rw [sM_r _ _ _ _ q2]
            exact m2 a b q1
          refine ⟨_, _, rfl, rfl, ⟨i1.keep f1 f2, ?_, ?_, i4.tr f1, i5.tr f2, j + 1, by omega, oN_s j, oN_s j⟩, hμ⟩
          · intro d hd
            show wg_up D1 41 _ _ 41 d = (wg_sM M1 67 _ _).1 67 d
            by_cases z : d = (onP B (4 + (Int32.ofNat k).toNatClampNeg) (Int32.ofNat j)).toNatClampNeg
            · rw [z, up_s, sM_s, d2 _ _ (by decide) (by decide), i2 _ hc]
            · rw [up_k _ _ z, sM_k _ _ z, d2 _ _ (by decide) (by decide), m2 _ _ (by omega), i2 _ hd]
          · show sumV (C' 41) 32 + _ = sumV (wg_up D1 41 _ _ 41) 32
            rw [← sumV_up (f := C' 41) (v := saysV val B (Int32.ofNat k) (Int32.ofNat j) 1) hc]
            refine sumV_congr (fun d hd => ?_)
            by_cases z : d = (onP B (4 + (Int32.ofNat k).toNatClampNeg) (Int32.ofNat j)).toNatClampNeg
            · rw [if_pos z, z, up_s, d2 _ _ (by decide) (by decide)]
            · rw [if_neg z, up_k _ _ z, d2 _ _ (by decide) (by decide)]
        · rw [if_neg gp, if_neg gp]
          exact ⟨_, _, rfl, rfl, ⟨i1, i2, rfl, i4, i5, j + 1, by omega, oN_s j, oN_s j⟩, hμ⟩
      · right
        rw [if_pos gj, if_pos gj]
        exact ⟨_, _, rfl, rfl, i1, i2, rfl, i4, i5⟩) NN NN (D, sumV (D 41) 32, 0) (M, 0) ⟨h, hw, rfl, fun _ _ _ _ _ => rfl, fun _ _ _ _ => rfl, 0, by omega, rfl, rfl⟩ (by have := NN_big; show 32 - _ < NN; omega) (by have := NN_big; show 32 - _ < NN; omega)
    exact ⟨E, L, e1, e2, e3⟩
  · have e1 : lp (fun (o : wg_C × Int32 × Int32) => f_X8_flood_l40 NN S q 32 r (Int32.ofNat k) (4 + (Int32.ofNat k).toNatClampNeg) o.1 o.2.1 o.2.2) NN (D, sumV (D 41) 32, (0 : Int32)) = some (D, sumV (D 41) 32, 0) := by
      obtain ⟨n, hn⟩ := NN_split 1 (by decide)
      rw [show NN = n + 1 by omega]
      refine lp_inr ?_
      simp only [f_X8_flood_l40, show ¬ (32 : Int32) ≤ 0 by decide, if_false, p8_leads, hB D h.2.1, bd_eq, g]
    have e2 := lp_to (b := fun (o : wg_M × Int32) => f_X9_rains_l33 NN r (Int32.ofNat k) o.1 o.2) (fun j => (M, Int32.ofNat j)) 32 (M, 32) (fun j hj => by
      simp only [f_X9_rains_l33, g32 j (by omega), hj, not_true, if_false, p9_leads h.1 hp, bd_eq, g, lt_eq, oN_s]) (by rfl) NN (by have := NN_big; omega)
    exact ⟨_, _, e1, e2, h, hw, rfl, fun _ _ _ _ _ => rfl, fun _ _ _ _ => rfl⟩
theorem flood_rel {S : wg_Sh} {B : wg_C} {np nt q t id : Nat} {val : Int32 → Int32 → Int32 → Int32 → Int32 → Int32 → Int32 → Int32} {D : wg_C} {M : wg_M} (h : FlI S B D M np nt q t id val) (r : Int32) : ∃ E L, f_X8_flood NN S D r q 32 = some (sumV (E 41) 32, E) ∧ f_X9_rains NN M r = some L ∧ (∀ d, d < 32 → E 41 d = L.1 67 d) ∧ flC D E ∧ flM M L ∧ FlI S B E L np nt q t id val := by
  have h8 := h.1.1
  unfold f_X8_flood f_X9_rains
  rw [s8_fill D 41 32 0 (by omega), bd_eq]
  have e0 := lp_to (b := fun (o : wg_M × Int32) => f_X9_rains_l2 NN r o.1 o.2) (fun k => (rowM M 67 0 k (fun _ => 0), Int32.ofNat k)) 32 (rowM M 67 0 32 (fun _ => 0), 32) (fun k hk => by
    simp only [f_X9_rains_l2, show (32 : Int32) = Int32.ofNat 32 from rfl, oN_le (show k < 2147483648 by omega) (show 32 < 2147483648 by omega), Nat.not_le.mpr hk, if_false, ck_pos (oN_inb hk (by omega)), lt_eq, oN_cl (show k < 2147483648 by omega), oN_s]
    rw [← rowM_s, Nat.zero_add]) (by rfl) NN (by have := NN_big; omega)
  rw [rowM_0] at e0
  rw [show lp (fun (o : wg_M × Int32) => f_X9_rains_l2 NN r o.1 o.2) NN (M, (0 : Int32)) = some (rowM M 67 0 32 (fun _ => 0), 32) from e0, bd2_eq]
  have f1 : flC D (rowC D 41 0 32 (fun _ => 0)) := fun a k q1 q2 q3 => rowC_ne q3
  have f2 : flM M (rowM M 67 0 32 (fun _ => 0)) := fun a k q1 q2 => by rw [rowM_1, rowC_ne q2]
  have hw0 : ∀ d, d < 32 → rowC D 41 0 32 (fun _ => 0) 41 d = (rowM M 67 0 32 (fun _ => 0)).1 67 d := fun d hd => by
    rw [rowC_in (by omega) (by omega), rowM_1, rowC_in (by omega) (by omega)]
  have hs0 : (0 : Int32) = sumV (rowC D 41 0 32 (fun _ => 0) 41) 32 := by
    rw [sumV_congr (g := fun _ => 0) (fun d hd => rowC_in (by omega) (by omega)), sumV_0]
  obtain ⟨E, L, e1, e2, e3⟩ := lp_rel (b := fun (o : wg_C × Int32 × Int32) => f_X8_flood_l13 NN S q 32 r o.1 o.2.1 o.2.2) (c := fun (o : wg_M × Int32) => f_X9_rains_l23 NN r o.1 o.2) (fun x y => FlI S B x.1 y.1 np nt q t id val ∧ (∀ d, d < 32 → x.1 41 d = y.1.1 67 d) ∧ x.2.1 = sumV (x.1 41) 32 ∧ flC D x.1 ∧ flM M y.1 ∧ ∃ j, j ≤ np ∧ x.2.2 = Int32.ofNat j ∧ y.2 = Int32.ofNat j) (fun x => np - x.2.2.toInt.toNat) (fun E L => FlI S B E.1 L.1 np nt q t id val ∧ (∀ d, d < 32 → E.1 41 d = L.1.1 67 d) ∧ E.2.1 = sumV (E.1 41) 32 ∧ flC D E.1 ∧ flM M L.1) (by
    rintro ⟨C', v, x⟩ ⟨M', x'⟩ ⟨i1, i2, i3, i4, i5, j, hj, e1, e2⟩
    simp only at i1 i2 i3 i4 i5 e1 e2
    subst e1 e2 i3
    have a1 : C' 1 2 = Int32.ofNat np := by rw [i1.2.1.1 1 2 (Or.inl rfl)]; exact oN_eq i1.1.2.1
    have a2 : M'.1 55 13 = Int32.ofNat np := by rw [i1.1.2.2.1]; exact oN_eq i1.1.2.1
    simp only [f_X8_flood_l13, f_X9_rains_l23, a1, a2, oN_le (show j < 2147483648 by omega) (show np < 2147483648 by omega)]
    by_cases g : np ≤ j
    · right
      rw [if_pos g, if_pos g]
      exact ⟨_, _, rfl, rfl, i1, i2, rfl, i4, i5⟩
    · left
      rw [if_neg g, if_neg g, ck_pos (oN_inb (show j < 8 by omega) (by decide))]
      obtain ⟨E, L, u1, u2, u3, u4, u5, u6, u7⟩ := fl_in i1 i2 r (show j < np by omega)
      rw [u1, u2]
      refine ⟨_, _, rfl, rfl, ⟨u3, u4, u5, i4.tr u6, i5.tr u7, j + 1, by omega, oN_s j, oN_s j⟩, ?_⟩
      show np - (Int32.ofNat j + 1).toInt.toNat < np - (Int32.ofNat j).toInt.toNat
      rw [oN_s, oN_t (by omega), oN_t (by omega)]
      omega) NN NN (rowC D 41 0 32 (fun _ => 0), 0, 0) (rowM M 67 0 32 (fun _ => 0), 0) ⟨h.keep f1 f2, hw0, hs0, f1, f2, 0, by omega, rfl, rfl⟩ (by have := NN_big; show np - _ < NN; omega) (by have := NN_big; show np - _ < NN; omega)
  rw [e1, e2]
  obtain ⟨i1, i2, i3, i4, i5⟩ := e3
  obtain ⟨E, v, x⟩ := E
  simp only at i3
  subst i3
  exact ⟨E, L.1, rfl, rfl, i2, i4, i5, i1⟩
theorem flC.keep {C D : wg_C} (h : flC C D) : keepC C D := fun a k q => h a k (by unfold pC at q; omega) (by unfold pC at q; omega) (by unfold pC at q; omega)
theorem flM.keep {M L : wg_M} (h : flM M L) : keepM M L := fun a k q => h a k (by unfold pM at q; omega) (by unfold pM at q; omega)
theorem wInv.fl {S : wg_Sh} {C : wg_C} {M : wg_M} (h : wInv S C M) : ∃ np nt t id val, FlI S C C M np nt 2 t id val := by
  obtain ⟨hs, np, nt, h1, h2, ⟨h3, h3a, h3b⟩, h4, h5, h6, h7⟩ := h
  have ht : (C 1 3).toInt = ((C 1 3).toInt.toNat : Nat) := by omega
  obtain ⟨id, val, hx⟩ := h7.2.2.2 (C 1 3).toInt.toNat (by omega)
  exact ⟨np, nt, (C 1 3).toInt.toNat, id, val, h1, ⟨fun a k _ => rfl, fun d _ => rfl⟩, by decide, hx, ht, by rw [h3]; exact ht, by omega, h7.1.2, h7.2.1⟩
theorem h_water : H_water wInv := by
  intro S C M h hw r d
  obtain ⟨np, nt, t, id, val, hf⟩ := h.fl
  obtain ⟨E, L, e1, e2, e3, e4, e5, e6⟩ := flood_rel hf r
  unfold f_X8_water f_X9_water
  simp only [s8_isRoom, s9_isRoom, s8_isDay, s9_isDay, bd_eq, if_bI, e1, e2, bd2_eq]
  by_cases g1 : rg 6 r = true
  · by_cases g2 : rg 32 d = true
    · simp only [g1, g2, if_true, ck_pos (inb_of g2 (Nat.le_refl _)), e3 _ (cl_lt g2)]
      exact ⟨_, _, _, rfl, rfl, h.keep e4.keep e5.keep⟩
    · simp only [g1, g2, if_true]
      exact ⟨_, _, _, rfl, rfl, h⟩
  · simp only [g1]
    exact ⟨_, _, _, rfl, rfl, h⟩
theorem s9_wetAll (M : wg_M) : f_X9_wetAll NN M = some (sumV (M.1 67) 32) := by
  unfold f_X9_wetAll
  have e : lp (fun o => f_X9_wetAll_l4 NN M o.1 o.2) NN ((0 : Int32), (0 : Int32)) = some (sumV (M.1 67) 32, 32) := lp_to (fun k => (sumV (M.1 67) k, Int32.ofNat k)) 32 (sumV (M.1 67) 32, 32) (fun k hk => by
    simp only [f_X9_wetAll_l4, show (32 : Int32) = Int32.ofNat 32 from rfl, oN_le (show k < 2147483648 by omega) (show 32 < 2147483648 by omega), Nat.not_le.mpr hk, if_false, ck_pos (oN_inb hk (by omega)), lt_eq, oN_cl (show k < 2147483648 by omega), oN_s]
    rfl) (by rfl) NN (by have := NN_big; omega)
  rw [e]
  rfl
theorem wet_rel {S : wg_Sh} {E : wg_C} {L : wg_M} (w : Int32) (h : ∀ d, d < 32 → E 41 d = L.1 67 d) : ∃ x y, lp (fun o => f_X8_wettest_l45 NN S E o.1 o.2) NN ((0 : Int32), (1 : Int32)) = some (x, y) ∧ lp (fun o => f_X9_wettest_l30 NN L w o.1 o.2) NN ((0 : Int32), (1 : Int32)) = some (x, y) := by
  obtain ⟨r, r', e1, e2, e3⟩ := lp_rel (b := fun (o : Int32 × Int32) => f_X8_wettest_l45 NN S E o.1 o.2) (c := fun (o : Int32 × Int32) => f_X9_wettest_l30 NN L w o.1 o.2) (fun x y => x = y ∧ rg 32 x.1 = true ∧ ∃ k, k ≤ 32 ∧ x.2 = Int32.ofNat k) (fun x => 32 - x.2.toInt.toNat) (fun r q => r = q) (by
    rintro ⟨x, y⟩ ⟨x', y'⟩ ⟨e, hx, k, hk, e2⟩
    simp only [Prod.mk.injEq] at e hx e2
    obtain ⟨rfl, rfl⟩ := e
    subst e2
    simp only [f_X8_wettest_l45, f_X9_wettest_l30, show (32 : Int32) = Int32.ofNat 32 from rfl, oN_le (show k < 2147483648 by omega) (show 32 < 2147483648 by omega)]
    by_cases g : 32 ≤ k
    · right
      rw [if_pos g, if_pos g]
      exact ⟨_, _, rfl, rfl, rfl⟩
    · left
      have hμ : 32 - (Int32.ofNat k + 1).toInt.toNat < 32 - (Int32.ofNat k).toInt.toNat := by
        rw [oN_s, oN_t (by omega), oN_t (by omega)]
        omega
      rw [if_neg g, if_neg g]
      simp only [ck_pos (oN_inb (show k < 32 by omega) (by decide)), ck_pos (inb_of hx (Nat.le_refl _)), h _ (cl_lt hx), oN_cl (show k < 2147483648 by omega), h k (by omega), lt_eq]
      by_cases z : L.1 67 k ≤ L.1 67 x.toNatClampNeg
      · rw [if_pos z]
        exact ⟨_, _, rfl, rfl, ⟨rfl, hx, k + 1, by omega, oN_s k⟩, hμ⟩
      · rw [if_neg z]
        exact ⟨_, _, rfl, rfl, ⟨rfl, oN_rg (by omega) (by decide), k + 1, by omega, oN_s k⟩, hμ⟩) NN NN (0, 1) (0, 1) ⟨rfl, by decide, 1, by omega, rfl⟩ (by have := NN_big; show 32 - _ < NN; omega) (by have := NN_big; show 32 - _ < NN; omega)
  subst e3
  exact ⟨r.1, r.2, e1, e2⟩
theorem h_wettest : H_wettest wInv := by
  intro S C M h hw r w
  obtain ⟨np, nt, t, id, val, hf⟩ := h.fl
  obtain ⟨E, L, e1, e2, e3, e4, e5, e6⟩ := flood_rel hf r
  unfold f_X8_wettest f_X9_wettest
  rw [show f_X9_in w.toInt64 0 1 = some (bI (rg 2 w = true)) from s_inr w 1 2 rfl]
  simp only [s8_isRoom, s9_isRoom, bd_eq, if_bI, e1, e2, bd2_eq, s9_wetAll]
  by_cases g1 : rg 6 r = true
  · obtain ⟨x, y, u1, u2⟩ := wet_rel (S := S) w e3
    have q := rg_iff 2 w
    by_cases g2 : rg 2 w = true
    · have q := q.mp g2
      rw [if_pos g1, if_pos g1, if_pos g2, if_neg (by rw [i_lt, Int32.toInt_zero]; omega), if_pos (by rw [i_le, Int32.toInt_one]; omega), u1, u2, bd2_eq, bd2_eq]
      have hw2 : w = 0 ∨ w = 1 := by
        simp only [i_eq]
        show _ = (0 : Int) ∨ _ = (1 : Int)
        omega
      rcases hw2 with rfl | rfl
      · rw [if_neg (by decide), if_pos rfl]
        exact ⟨_, _, _, rfl, rfl, h.keep e4.keep e5.keep⟩
      · rw [if_pos rfl, if_neg (by decide), sumV_congr e3]
        exact ⟨_, _, _, rfl, rfl, h.keep e4.keep e5.keep⟩
    · have q : ¬ (0 ≤ w.toInt ∧ w.toInt < 2) := fun z => g2 (q.mpr z)
      rw [if_pos g1, if_pos g1, if_neg g2]
      refine ⟨-2, C, M, ?_, rfl, h⟩
      by_cases z : w < 0
      · rw [if_pos z]
      · rw [if_neg z, if_neg]
        rw [i_lt, Int32.toInt_zero] at z
        rw [i_le, Int32.toInt_one]
        omega
  · rw [if_neg g1, if_neg g1]
    exact ⟨_, _, _, rfl, rfl, h⟩
