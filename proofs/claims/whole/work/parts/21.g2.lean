-- WindowsGive.fewestToBrick(III)I (('c', 0), 'i', 'i', 'i')
def f_X8_fewestToBrick_l52 (N : Nat)  (x1 : Int32) (x2 : Int32) (x3 : Int32) (x4 : Int32) (x5 : Int32) (C : wg_C) (x6 : Int32) : Option ((wg_C × Int32) ⊕ ((wg_C × Int32) ⊕ (Int32 × wg_C))) :=
  if x4 ≤ x6 then (
    some (.inr (.inl (C, x6))))
  else (
    bd (f_J6_bitCount_0f7a4 x6) fun r10 =>
    if r10 = x5 then (
      bd2 (f_X7_comes N C x1 x2 x3 x6) fun r15 C16 =>
      if r15 = 0 then (
        some (.inr (.inr (x6, C16))))
      else (
        lt_ (x6 + (1 : Int32)) fun v18 =>
        some (.inl (C16, v18))))
    else (
      lt_ (x6 + (1 : Int32)) fun v12 =>
      some (.inl (C, v12))))
def f_X8_fewestToBrick_l37 (N : Nat)  (x1 : Int32) (x2 : Int32) (x3 : Int32) (x4 : Int32) (C : wg_C) (x5 : Int32) : Option ((wg_C × Int32) ⊕ ((wg_C × Int32) ⊕ (Int32 × wg_C))) :=
  if (C 1 2) < x5 then (
    some (.inr (.inl (C, x5))))
  else (
    bs2 (lp (fun o => f_X8_fewestToBrick_l52 N  x1 x2 x3 x4 x5 o.1 o.2) N (C, (0 : Int32))) (fun C20 v21 =>
      lt_ (x5 + (1 : Int32)) fun v26 =>
      some (.inl (C20, v26)))
      (fun q24 => some (.inr (.inr q24))))
def f_X8_fewestToBrick (N : Nat) (C : wg_C) (p1 : Int32) (p2 : Int32) (p3 : Int32) : Option (Int32 × wg_C) :=
  lt_ ((1 : Int32) <<< ((C 1 2) &&& 31)) fun v1 =>
  bd2 (f_X7_comes N C p1 p2 p3 (v1 - (1 : Int32))) fun r4 C5 =>
  if r4 = 0 then (
    bs2 (lp (fun o => f_X8_fewestToBrick_l37 N  p1 p2 p3 v1 o.1 o.2) N (C5, (0 : Int32))) (fun C28 v29 =>
      some ((-1 : Int32), C28))
      (fun q32 => some q32))
  else (
    some ((-1 : Int32), C5))
abbrev G_X8_fewestToBrick (p : Program) (l : Launch) (e : Env) (s : State) (m : MethodId) (args : Array Value) (below : List Frame) (meth : Method) (c : Code) (E : wg_Ev) (ad : Nat → Nat) (S : wg_Sh) (r0 : Int32) (C0 : wg_C) (M0 : wg_M) (pc : Nat) (C : wg_C) (M : wg_M) (lv : List (Nat × Value)) (st : List Value) : Prop := wg_G p l e (wg_Rm 6 145) s m args below meth c (MQ below (wg_Qi E ad S r0 C0 M0) args s 0 0 (wg_A E)) 7 E ad S 0 0 pc C M lv st
set_option maxHeartbeats 4000000 in
set_option maxRecDepth 100000 in
theorem L_X8_fewestToBrick_l52 {p : Program} {l : Launch} {e : Env} {s : State} {m : MethodId} {args : Array Value} {below : List Frame} {meth : Method} {c : Code} {E : wg_Ev} {ad : Nat → Nat} {S : wg_Sh} (X : wg_X p s m args meth c cX8_fewestToBrick 7 RX8 E) (hr : meth.sig.returnType = (some .int)) (hS : wg_SC S) (r0 : Int32) (D0 : wg_C) (M : wg_M) (N : Nat)   (x1 : Int32) (x2 : Int32) (x3 : Int32) (x4 : Int32) (x5 : Int32)  : ∀ (n : Nat) (C : wg_C) (x6 : Int32) (o : ((wg_C × Int32) ⊕ (Int32 × wg_C))), lp (fun o => f_X8_fewestToBrick_l52 N  x1 x2 x3 x4 x5 o.1 o.2) n (C, x6) = some o → (∀ (Dy : wg_C) (y6 : Int32), o = Sum.inl (Dy, y6) → G_X8_fewestToBrick p l e s m args below meth c E ad S r0 D0 M 97 Dy M [(0, .ref (ad 0)), (1, .int x1), (2, .int x2), (3, .int x3), (4, .int x4), (5, .int x5), (6, .int y6)] []) → (∀ q : (Int32 × wg_C), o = Sum.inr q → q = (r0, D0)) → G_X8_fewestToBrick p l e s m args below meth c E ad S r0 D0 M 52 C M [(0, .ref (ad 0)), (1, .int x1), (2, .int x2), (3, .int x3), (4, .int x4), (5, .int x5), (6, .int x6)] [] := by
  intro n
  induction n with
  | zero => exact fun _ _ o h => (lp_zero h).elim
  | succ n ih =>
    intro C x6 o h K KR
    obtain ⟨o1, hb, h2⟩ := lp_some h
    replace hb : f_X8_fewestToBrick_l52 N  x1 x2 x3 x4 x5 C x6 = some o1 := hb
    clear h
    have Kc : ∀ (Dy : wg_C) (y6 : Int32), o1 = Sum.inl (Dy, y6) → G_X8_fewestToBrick p l e s m args below meth c E ad S r0 D0 M 52 Dy M [(0, .ref (ad 0)), (1, .int x1), (2, .int x2), (3, .int x3), (4, .int x4), (5, .int x5), (6, .int y6)] [] := fun Dy y6 e1 => by
      subst e1
      exact ih Dy y6 o h2 K KR
    have Ke : ∀ (Dy : wg_C) (y6 : Int32), o1 = Sum.inr (Sum.inl (Dy, y6)) → G_X8_fewestToBrick p l e s m args below meth c E ad S r0 D0 M 97 Dy M [(0, .ref (ad 0)), (1, .int x1), (2, .int x2), (3, .int x3), (4, .int x4), (5, .int x5), (6, .int y6)] [] := fun Dy y6 e1 => by
      subst e1
      exact K Dy y6 (sm_inj (α := ((wg_C × Int32) ⊕ (Int32 × wg_C))) h2).symm
    have Kr : ∀ q : (Int32 × wg_C), o1 = Sum.inr (Sum.inr q) → q = (r0, D0) := fun q e1 => by
      subst e1
      exact KR q (sm_inj (α := ((wg_C × Int32) ⊕ (Int32 × wg_C))) h2).symm
    clear ih K h2 KR
    unfold f_X8_fewestToBrick_l52 at hb
    have h := hb
    clear hb
    refine wg_iload X 6 dX8_fewestToBrick_52 rfl ?_
    refine wg_iload X 4 dX8_fewestToBrick_54 rfl ?_
    refine wg_icmp_ge X 97 dX8_fewestToBrick_56 (by decide) (fun c8 => ?_) (fun c8 => ?_)
    · have h := if_t c8 h
      exact Ke C x6 (sm_inj h).symm
    · have h := if_f c8 h
      refine wg_iload X 6 dX8_fewestToBrick_59 rfl ?_
      obtain ⟨r10, h9, h⟩ := bd_some h
      refine wg_callSi (As := [.int x6]) (rest := []) X (c_J6_bitCount_0f7a4 l E ad S C M x6  h9) T_yJ6_bitCount_0f7a4 k_693 dX8_fewestToBrick_61 rfl rfl (Nat.le_of_ble_eq_true rfl) ⟨Nat.le_of_ble_eq_true rfl, Nat.le_of_ble_eq_true rfl⟩ ⟨Nat.zero_le _, Nat.zero_le _⟩ ?_
      refine wg_iload X 5 dX8_fewestToBrick_64 rfl ?_
      refine wg_icmp_ne X 91 dX8_fewestToBrick_66 (by decide) (fun c11 => ?_) (fun c11 => ?_)
      · have h := if_f c11 h
        obtain ⟨v12, e13, h⟩ := lt_some h
        refine wg_iinc (lv' := [(6, .int v12), (0, .ref (ad 0)), (1, .int x1), (2, .int x2), (3, .int x3), (4, .int x4), (5, .int x5)]) X 6 dX8_fewestToBrick_91 rfl e13 (by decide) rfl ?_
        refine wg_goto X 52 dX8_fewestToBrick_94 (by decide) ?_
        refine wg_pick [1, 2, 3, 4, 5, 6, 0] (lv' := [(0, .ref (ad 0)), (1, .int x1), (2, .int x2), (3, .int x3), (4, .int x4), (5, .int x5), (6, .int v12)]) rfl ?_
        exact Kc C v12 (sm_inj h).symm
      · have h := if_t c11 h
        refine wg_aload_n X 0 dX8_fewestToBrick_69 rfl rfl ?_
        refine wg_getR (b := 35) X cl8 (SCi hS 0 8 rfl) 6 (by decide) dX8_fewestToBrick_70 k_478 rfl (SCr hS 0 6 35 rfl) ?_
        refine wg_aload_n X 0 dX8_fewestToBrick_73 rfl rfl ?_
        refine wg_getR (b := 1) X cl8 (SCi hS 0 8 rfl) 0 (by decide) dX8_fewestToBrick_74 k_472 rfl (SCr hS 0 0 1 rfl) ?_
        refine wg_iload_n X 1 dX8_fewestToBrick_77 rfl rfl ?_
        refine wg_iload_n X 2 dX8_fewestToBrick_78 rfl rfl ?_
        refine wg_iload_n X 3 dX8_fewestToBrick_79 rfl rfl ?_
        refine wg_iload X 6 dX8_fewestToBrick_80 rfl ?_
        obtain ⟨r15, C16, h14, h⟩ := bd2_some h
        refine wg_callVi (As := [.ref (ad 1), .int x1, .int x2, .int x3, .int x6]) (rest := []) X (c_X7_comes l E ad S hS N C M x1 x2 x3 x6  h14) T_yX7_comes k_688 cl7 (SCi hS 35 7 rfl) dX8_fewestToBrick_82 rfl rfl (Nat.le_of_ble_eq_true rfl) ⟨Nat.le_of_ble_eq_true rfl, Nat.le_of_ble_eq_true rfl⟩ ⟨Nat.zero_le _, Nat.zero_le _⟩ ?_
        refine wg_if_ne X 91 dX8_fewestToBrick_85 (by decide) (fun c17 => ?_) (fun c17 => ?_)
        · have h := if_f c17 h
          obtain ⟨v18, e19, h⟩ := lt_some h
          refine wg_iinc (lv' := [(6, .int v18), (0, .ref (ad 0)), (1, .int x1), (2, .int x2), (3, .int x3), (4, .int x4), (5, .int x5)]) X 6 dX8_fewestToBrick_91 rfl e19 (by decide) rfl ?_
          refine wg_goto X 52 dX8_fewestToBrick_94 (by decide) ?_
          refine wg_pick [1, 2, 3, 4, 5, 6, 0] (lv' := [(0, .ref (ad 0)), (1, .int x1), (2, .int x2), (3, .int x3), (4, .int x4), (5, .int x5), (6, .int v18)]) rfl ?_
          exact Kc C16 v18 (sm_inj h).symm
        · have h := if_t c17 h
          refine wg_iload X 6 dX8_fewestToBrick_88 rfl ?_
          have hq := Kr _ (sm_inj h).symm
          exact wg_iret X ⟨(Prod.mk.inj hq).1, (Prod.mk.inj hq).2, rfl⟩ hr dX8_fewestToBrick_90
set_option maxHeartbeats 4000000 in
set_option maxRecDepth 100000 in
theorem L_X8_fewestToBrick_l37 {p : Program} {l : Launch} {e : Env} {s : State} {m : MethodId} {args : Array Value} {below : List Frame} {meth : Method} {c : Code} {E : wg_Ev} {ad : Nat → Nat} {S : wg_Sh} (X : wg_X p s m args meth c cX8_fewestToBrick 7 RX8 E) (hr : meth.sig.returnType = (some .int)) (hS : wg_SC S) (r0 : Int32) (D0 : wg_C) (M : wg_M) (N : Nat)   (x1 : Int32) (x2 : Int32) (x3 : Int32) (x4 : Int32)  : ∀ (n : Nat) (C : wg_C) (x5 : Int32) (o : ((wg_C × Int32) ⊕ (Int32 × wg_C))), lp (fun o => f_X8_fewestToBrick_l37 N  x1 x2 x3 x4 o.1 o.2) n (C, x5) = some o → (∀ (Dy : wg_C) (y5 : Int32), o = Sum.inl (Dy, y5) → G_X8_fewestToBrick p l e s m args below meth c E ad S r0 D0 M 103 Dy M [(0, .ref (ad 0)), (1, .int x1), (2, .int x2), (3, .int x3), (4, .int x4), (5, .int y5)] []) → (∀ q : (Int32 × wg_C), o = Sum.inr q → q = (r0, D0)) → G_X8_fewestToBrick p l e s m args below meth c E ad S r0 D0 M 37 C M [(0, .ref (ad 0)), (1, .int x1), (2, .int x2), (3, .int x3), (4, .int x4), (5, .int x5)] [] := by
  intro n
  induction n with
  | zero => exact fun _ _ o h => (lp_zero h).elim
  | succ n ih =>
    intro C x5 o h K KR
    obtain ⟨o1, hb, h2⟩ := lp_some h
    replace hb : f_X8_fewestToBrick_l37 N  x1 x2 x3 x4 C x5 = some o1 := hb
    clear h
    have Kc : ∀ (Dy : wg_C) (y5 : Int32), o1 = Sum.inl (Dy, y5) → G_X8_fewestToBrick p l e s m args below meth c E ad S r0 D0 M 37 Dy M [(0, .ref (ad 0)), (1, .int x1), (2, .int x2), (3, .int x3), (4, .int x4), (5, .int y5)] [] := fun Dy y5 e1 => by
      subst e1
      exact ih Dy y5 o h2 K KR
    have Ke : ∀ (Dy : wg_C) (y5 : Int32), o1 = Sum.inr (Sum.inl (Dy, y5)) → G_X8_fewestToBrick p l e s m args below meth c E ad S r0 D0 M 103 Dy M [(0, .ref (ad 0)), (1, .int x1), (2, .int x2), (3, .int x3), (4, .int x4), (5, .int y5)] [] := fun Dy y5 e1 => by
      subst e1
      exact K Dy y5 (sm_inj (α := ((wg_C × Int32) ⊕ (Int32 × wg_C))) h2).symm
    have Kr : ∀ q : (Int32 × wg_C), o1 = Sum.inr (Sum.inr q) → q = (r0, D0) := fun q e1 => by
      subst e1
      exact KR q (sm_inj (α := ((wg_C × Int32) ⊕ (Int32 × wg_C))) h2).symm
    clear ih K h2 KR
    unfold f_X8_fewestToBrick_l37 at hb
    have h := hb
    clear hb
    refine wg_iload X 5 dX8_fewestToBrick_37 rfl ?_
    refine wg_aload_n X 0 dX8_fewestToBrick_39 rfl rfl ?_
    refine wg_getR (b := 1) X cl8 (SCi hS 0 8 rfl) 0 (by decide) dX8_fewestToBrick_40 k_472 rfl (SCr hS 0 0 1 rfl) ?_
    refine wg_getC X cl0 (SCi hS 1 0 rfl) 2 (by decide) dX8_fewestToBrick_43 k_147 rfl ?_
    refine wg_icmp_gt X 103 dX8_fewestToBrick_46 (by decide) (fun c7 => ?_) (fun c7 => ?_)
    · have h := if_t c7 h
      exact Ke C x5 (sm_inj h).symm
    · have h := if_f c7 h
      refine wg_iconst (v := 0) X dX8_fewestToBrick_49 (by decide) ?_
      refine wg_istore (lv' := [(6, .int (0 : Int32)), (0, .ref (ad 0)), (1, .int x1), (2, .int x2), (3, .int x3), (4, .int x4), (5, .int x5)]) X dX8_fewestToBrick_50 rfl (by decide) rfl ?_
      obtain ⟨o22, h23, h⟩ := bs2_o h
      refine wg_pick [1, 2, 3, 4, 5, 6, 0] (lv' := [(0, .ref (ad 0)), (1, .int x1), (2, .int x2), (3, .int x3), (4, .int x4), (5, .int x5), (6, .int (0 : Int32))]) rfl ?_
      refine L_X8_fewestToBrick_l52 X hr hS r0 D0 M N   x1 x2 x3 x4 x5  N C (0 : Int32) o22 h23 (fun C20 v21 e25 => ?_) (fun q24 e25 => ?_)
      · subst e25
        replace h := bs2_in h
        obtain ⟨v26, e27, h⟩ := lt_some h
        refine wg_iinc (lv' := [(5, .int v26), (0, .ref (ad 0)), (1, .int x1), (2, .int x2), (3, .int x3), (4, .int x4), (6, .int v21)]) X 5 dX8_fewestToBrick_97 rfl e27 (by decide) rfl ?_
        refine wg_goto X 37 dX8_fewestToBrick_100 (by decide) ?_
        refine wg_pick [1, 2, 3, 4, 5, 0] (lv' := [(0, .ref (ad 0)), (1, .int x1), (2, .int x2), (3, .int x3), (4, .int x4), (5, .int v26)]) rfl ?_
        exact Kc C20 v26 (sm_inj h).symm
      · subst e25
        replace h := bs2_r h
        exact Kr _ (sm_inj h).symm
set_option maxHeartbeats 4000000 in
set_option maxRecDepth 100000 in
theorem c_X8_fewestToBrick (l : Launch) (E : wg_Ev) (ad : Nat → Nat) (S : wg_Sh) (hS : wg_SC S) (N : Nat) (C : wg_C) (M : wg_M) (p1 : Int32) (p2 : Int32) (p3 : Int32)  {r0 : Int32} {D0 : wg_C} (h : f_X8_fewestToBrick N C p1 p2 p3 = some (r0, D0)) : wg_Ci l yX8_fewestToBrick cX8_fewestToBrick 7 (some .int) 6 145 E ad S C M [.ref (ad 0), .int p1, .int p2, .int p3] r0 D0 M := by
  refine wg_start (own := RX8) (by decide +kernel) rfl (Nat.le_of_ble_eq_true rfl) ?_
  intro p e s m below meth c X hr hnm
  refine wg_lv (lv' := [(0, .ref (ad 0)), (1, .int p1), (2, .int p2), (3, .int p3)]) rfl ?_
  unfold f_X8_fewestToBrick at h
  refine wg_iconst (v := 1) X dX8_fewestToBrick_0 (by decide) ?_
  refine wg_aload_n X 0 dX8_fewestToBrick_1 rfl rfl ?_
  refine wg_getR (b := 1) X cl8 (SCi hS 0 8 rfl) 0 (by decide) dX8_fewestToBrick_2 k_472 rfl (SCr hS 0 0 1 rfl) ?_
  refine wg_getC X cl0 (SCi hS 1 0 rfl) 2 (by decide) dX8_fewestToBrick_5 k_147 rfl ?_
  refine wg_ishl X dX8_fewestToBrick_8 ?_
  obtain ⟨v1, e2, h⟩ := lt_some h
  refine wg_istore (lv' := [(4, .int v1), (0, .ref (ad 0)), (1, .int p1), (2, .int p2), (3, .int p3)]) X dX8_fewestToBrick_9 e2 (by decide) rfl ?_
  refine wg_aload_n X 1 dX8_fewestToBrick_11 rfl rfl ?_
  refine wg_getR (b := 35) X cl8 (SCi hS 0 8 rfl) 6 (by decide) dX8_fewestToBrick_12 k_478 rfl (SCr hS 0 6 35 rfl) ?_
  refine wg_aload_n X 1 dX8_fewestToBrick_15 rfl rfl ?_
  refine wg_getR (b := 1) X cl8 (SCi hS 0 8 rfl) 0 (by decide) dX8_fewestToBrick_16 k_472 rfl (SCr hS 0 0 1 rfl) ?_
  refine wg_iload_n X 2 dX8_fewestToBrick_19 rfl rfl ?_
  refine wg_iload_n X 3 dX8_fewestToBrick_20 rfl rfl ?_
  refine wg_iload_n X 4 dX8_fewestToBrick_21 rfl rfl ?_
  refine wg_iload X 0 dX8_fewestToBrick_22 rfl ?_
  refine wg_iconst (v := 1) X dX8_fewestToBrick_24 (by decide) ?_
  refine wg_isub X dX8_fewestToBrick_25 ?_
  obtain ⟨r4, C5, h3, h⟩ := bd2_some h
  refine wg_callVi (As := [.ref (ad 1), .int p1, .int p2, .int p3, .int (v1 - (1 : Int32))]) (rest := []) X (c_X7_comes l E ad S hS N C M p1 p2 p3 (v1 - (1 : Int32))  h3) T_yX7_comes k_688 cl7 (SCi hS 35 7 rfl) dX8_fewestToBrick_26 rfl rfl (Nat.le_of_ble_eq_true rfl) ⟨Nat.le_of_ble_eq_true rfl, Nat.le_of_ble_eq_true rfl⟩ ⟨Nat.zero_le _, Nat.zero_le _⟩ ?_
  refine wg_if_eq X 34 dX8_fewestToBrick_29 (by decide) (fun c6 => ?_) (fun c6 => ?_)
  · have h := if_t c6 h
    refine wg_iconst (v := 0) X dX8_fewestToBrick_34 (by decide) ?_
    refine wg_istore (lv' := [(5, .int (0 : Int32)), (4, .int v1), (0, .ref (ad 0)), (1, .int p1), (2, .int p2), (3, .int p3)]) X dX8_fewestToBrick_35 rfl (by decide) rfl ?_
    obtain ⟨o30, h31, h⟩ := bs2_o h
    refine wg_pick [2, 3, 4, 5, 1, 0] (lv' := [(0, .ref (ad 0)), (1, .int p1), (2, .int p2), (3, .int p3), (4, .int v1), (5, .int (0 : Int32))]) rfl ?_
    refine L_X8_fewestToBrick_l37 X hr hS r0 D0 M N   p1 p2 p3 v1  N C5 (0 : Int32) o30 h31 (fun C28 v29 e33 => ?_) (fun q32 e33 => ?_)
    · subst e33
      replace h := bs2_in h
      refine wg_iconst (v := -1) X dX8_fewestToBrick_103 (by decide) ?_
      exact wg_iret X ⟨(Prod.mk.inj (sm_inj h)).1, (Prod.mk.inj (sm_inj h)).2, rfl⟩ hr dX8_fewestToBrick_104
    · subst e33
      replace h := bs2_r h
      exact sm_inj h
  · have h := if_f c6 h
    refine wg_iconst (v := -1) X dX8_fewestToBrick_32 (by decide) ?_
    exact wg_iret X ⟨(Prod.mk.inj (sm_inj h)).1, (Prod.mk.inj (sm_inj h)).2, rfl⟩ hr dX8_fewestToBrick_33
-- WindowsGive.brick(IIII)I (('c', 0), 'i', 'i', 'i', 'i')
def f_X8_brick (N : Nat) (C : wg_C) (p1 : Int32) (p2 : Int32) (p3 : Int32) (p4 : Int32) : Option (Int32 × wg_C) :=
  bd (f_X8_isSpot p1) fun r2 =>
  if r2 = 0 then (
    some ((-2 : Int32), C))
  else (
    bd (f_X8_isSpot p2) fun r5 =>
    if r5 = 0 then (
      some ((-2 : Int32), C))
    else (
      bd (f_X8_isSort p3) fun r8 =>
      if r8 = 0 then (
        some ((-2 : Int32), C))
      else (
        if p4 < 0 then (
          some ((-2 : Int32), C))
        else (
          if p4 ≤ (1 : Int32) then (
            if p4 = 0 then (
              bd2 (f_X8_fewestToBrick N C p1 p2 p3) fun r17 C18 =>
              some (r17, C18))
            else (
              bd2 (f_X8_neededAlone N C p1 p2 p3) fun r14 C15 =>
              some (r14, C15)))
          else (
            some ((-2 : Int32), C))))))
set_option maxHeartbeats 4000000 in
set_option maxRecDepth 100000 in
theorem c_X8_brick (l : Launch) (E : wg_Ev) (ad : Nat → Nat) (S : wg_Sh) (hS : wg_SC S) (N : Nat) (C : wg_C) (M : wg_M) (p1 : Int32) (p2 : Int32) (p3 : Int32) (p4 : Int32)  {r0 : Int32} {D0 : wg_C} (h : f_X8_brick N C p1 p2 p3 p4 = some (r0, D0)) : wg_Ci l yX8_brick cX8_brick 5 (some .int) 7 171 E ad S C M [.ref (ad 0), .int p1, .int p2, .int p3, .int p4] r0 D0 M := by
  refine wg_start (own := RX8) (by decide +kernel) rfl (Nat.le_of_ble_eq_true rfl) ?_
  intro p e s m below meth c X hr hnm
  refine wg_lv (lv' := [(0, .ref (ad 0)), (1, .int p1), (2, .int p2), (3, .int p3), (4, .int p4)]) rfl ?_
  unfold f_X8_brick at h
  refine wg_iload_n X 1 dX8_brick_0 rfl rfl ?_
  obtain ⟨r2, h1, h⟩ := bd_some h
  refine wg_callSi (As := [.int p1]) (rest := []) X (c_X8_isSpot l E ad S C M p1  h1) T_yX8_isSpot k_587 dX8_brick_1 rfl rfl (Nat.le_of_ble_eq_true rfl) ⟨Nat.le_of_ble_eq_true rfl, Nat.le_of_ble_eq_true rfl⟩ ⟨Nat.zero_le _, Nat.zero_le _⟩ ?_
  refine wg_if_eq X 32 dX8_brick_4 (by decide) (fun c3 => ?_) (fun c3 => ?_)
  · have h := if_t c3 h
    refine wg_bipush (v := -2) X dX8_brick_32 (by decide) ?_
    exact wg_iret X ⟨(Prod.mk.inj (sm_inj h)).1, (Prod.mk.inj (sm_inj h)).2, rfl⟩ hr dX8_brick_34
  · have h := if_f c3 h
    refine wg_iload_n X 2 dX8_brick_7 rfl rfl ?_
    obtain ⟨r5, h4, h⟩ := bd_some h
    refine wg_callSi (As := [.int p2]) (rest := []) X (c_X8_isSpot l E ad S C M p2  h4) T_yX8_isSpot k_587 dX8_brick_8 rfl rfl (Nat.le_of_ble_eq_true rfl) ⟨Nat.le_of_ble_eq_true rfl, Nat.le_of_ble_eq_true rfl⟩ ⟨Nat.zero_le _, Nat.zero_le _⟩ ?_
    refine wg_if_eq X 32 dX8_brick_11 (by decide) (fun c6 => ?_) (fun c6 => ?_)
    · have h := if_t c6 h
      refine wg_bipush (v := -2) X dX8_brick_32 (by decide) ?_
      exact wg_iret X ⟨(Prod.mk.inj (sm_inj h)).1, (Prod.mk.inj (sm_inj h)).2, rfl⟩ hr dX8_brick_34
    · have h := if_f c6 h
      refine wg_iload_n X 3 dX8_brick_14 rfl rfl ?_
      obtain ⟨r8, h7, h⟩ := bd_some h
      refine wg_callSi (As := [.int p3]) (rest := []) X (c_X8_isSort l E ad S C M p3  h7) T_yX8_isSort k_554 dX8_brick_15 rfl rfl (Nat.le_of_ble_eq_true rfl) ⟨Nat.le_of_ble_eq_true rfl, Nat.le_of_ble_eq_true rfl⟩ ⟨Nat.zero_le _, Nat.zero_le _⟩ ?_
      refine wg_if_eq X 32 dX8_brick_18 (by decide) (fun c9 => ?_) (fun c9 => ?_)
      · have h := if_t c9 h
        refine wg_bipush (v := -2) X dX8_brick_32 (by decide) ?_
        exact wg_iret X ⟨(Prod.mk.inj (sm_inj h)).1, (Prod.mk.inj (sm_inj h)).2, rfl⟩ hr dX8_brick_34
      · have h := if_f c9 h
        refine wg_iload X 4 dX8_brick_21 rfl ?_
        refine wg_if_lt X 32 dX8_brick_23 (by decide) (fun c10 => ?_) (fun c10 => ?_)
        · have h := if_t c10 h
          refine wg_bipush (v := -2) X dX8_brick_32 (by decide) ?_
          exact wg_iret X ⟨(Prod.mk.inj (sm_inj h)).1, (Prod.mk.inj (sm_inj h)).2, rfl⟩ hr dX8_brick_34
        · have h := if_f c10 h
          refine wg_iload X 4 dX8_brick_26 rfl ?_
          refine wg_iconst (v := 1) X dX8_brick_28 (by decide) ?_
          refine wg_icmp_le X 35 dX8_brick_29 (by decide) (fun c11 => ?_) (fun c11 => ?_)
          · have h := if_t c11 h
            refine wg_iload X 4 dX8_brick_35 rfl ?_
            refine wg_if_ne X 50 dX8_brick_37 (by decide) (fun c12 => ?_) (fun c12 => ?_)
            · have h := if_f c12 h
              refine wg_aload_n X 0 dX8_brick_50 rfl rfl ?_
              refine wg_iload_n X 1 dX8_brick_51 rfl rfl ?_
              refine wg_iload_n X 2 dX8_brick_52 rfl rfl ?_
              refine wg_iload_n X 3 dX8_brick_53 rfl rfl ?_
              obtain ⟨r14, C15, h13, h⟩ := bd2_some h
              refine wg_callVi (As := [.int p1, .int p2, .int p3]) (rest := []) X (c_X8_neededAlone l E ad S hS N C M p1 p2 p3  h13) T_yX8_neededAlone k_699 cl8 (SCi hS 0 8 rfl) dX8_brick_54 rfl rfl (Nat.le_of_ble_eq_true rfl) ⟨Nat.le_of_ble_eq_true rfl, Nat.le_of_ble_eq_true rfl⟩ ⟨Nat.zero_le _, Nat.zero_le _⟩ ?_
              exact wg_iret X ⟨(Prod.mk.inj (sm_inj h)).1, (Prod.mk.inj (sm_inj h)).2, rfl⟩ hr dX8_brick_57
            · have h := if_t c12 h
              refine wg_aload_n X 0 dX8_brick_40 rfl rfl ?_
              refine wg_iload_n X 1 dX8_brick_41 rfl rfl ?_
              refine wg_iload_n X 2 dX8_brick_42 rfl rfl ?_
              refine wg_iload_n X 3 dX8_brick_43 rfl rfl ?_
              obtain ⟨r17, C18, h16, h⟩ := bd2_some h
              refine wg_callVi (As := [.int p1, .int p2, .int p3]) (rest := []) X (c_X8_fewestToBrick l E ad S hS N C M p1 p2 p3  h16) T_yX8_fewestToBrick k_684 cl8 (SCi hS 0 8 rfl) dX8_brick_44 rfl rfl (Nat.le_of_ble_eq_true rfl) ⟨Nat.le_of_ble_eq_true rfl, Nat.le_of_ble_eq_true rfl⟩ ⟨Nat.zero_le _, Nat.zero_le _⟩ ?_
              refine wg_goto X 57 dX8_brick_47 (by decide) ?_
              exact wg_iret X ⟨(Prod.mk.inj (sm_inj h)).1, (Prod.mk.inj (sm_inj h)).2, rfl⟩ hr dX8_brick_57
          · have h := if_f c11 h
            refine wg_bipush (v := -2) X dX8_brick_32 (by decide) ?_
            exact wg_iret X ⟨(Prod.mk.inj (sm_inj h)).1, (Prod.mk.inj (sm_inj h)).2, rfl⟩ hr dX8_brick_34
-- WindowsGive.isSheet(I)Z ('i',)
def f_X8_isSheet (p0 : Int32) : Option Int32 :=
  if p0 < 0 then (
    some (0 : Int32))
  else (
    if (4 : Int32) ≤ p0 then (
      some (0 : Int32))
    else (
      some (1 : Int32)))
set_option maxHeartbeats 4000000 in
set_option maxRecDepth 100000 in
theorem c_X8_isSheet (l : Launch) (E : wg_Ev) (ad : Nat → Nat) (S : wg_Sh) (C : wg_C) (M : wg_M) (p0 : Int32)  {r0 : Int32} (h : f_X8_isSheet p0 = some r0) : wg_Ci l yX8_isSheet cX8_isSheet 1 (some .boolean) 0 0 E ad S C M [.int p0] r0 C M := by
  refine wg_start (own := RX8) (by decide +kernel) rfl (Nat.le_of_ble_eq_true rfl) ?_
  intro p e s m below meth c X hr hnm
  refine wg_lv (lv' := [(0, .int p0)]) rfl ?_
  unfold f_X8_isSheet at h
  refine wg_iload_n X 0 dX8_isSheet_0 rfl rfl ?_
  refine wg_if_lt X 13 dX8_isSheet_1 (by decide) (fun c1 => ?_) (fun c1 => ?_)
  · have h := if_t c1 h
    refine wg_iconst (v := 0) X dX8_isSheet_13 (by decide) ?_
    exact wg_zret X ⟨(sm_inj h), rfl, rfl⟩ hr (by decide) dX8_isSheet_14
  · have h := if_f c1 h
    refine wg_iload_n X 0 dX8_isSheet_4 rfl rfl ?_
    refine wg_iconst (v := 4) X dX8_isSheet_5 (by decide) ?_
    refine wg_icmp_ge X 13 dX8_isSheet_6 (by decide) (fun c2 => ?_) (fun c2 => ?_)
    · have h := if_t c2 h
      refine wg_iconst (v := 0) X dX8_isSheet_13 (by decide) ?_
      exact wg_zret X ⟨(sm_inj h), rfl, rfl⟩ hr (by decide) dX8_isSheet_14
    · have h := if_f c2 h
      refine wg_iconst (v := 1) X dX8_isSheet_9 (by decide) ?_
      refine wg_goto X 14 dX8_isSheet_10 (by decide) ?_
      exact wg_zret X ⟨(sm_inj h), rfl, rfl⟩ hr (by decide) dX8_isSheet_14
-- WindowsGive$Sheet.isMissing()Z ('SH',)
def f_X4_isMissing (C : wg_C) (p0 : Nat) : Option Int32 :=
  if (C p0 1) = (-1 : Int32) then (
    some (1 : Int32))
  else (
    some (0 : Int32))
set_option maxHeartbeats 4000000 in
set_option maxRecDepth 100000 in
theorem c_X4_isMissing (l : Launch) (E : wg_Ev) (ad : Nat → Nat) (S : wg_Sh) (hS : wg_SC S) (C : wg_C) (M : wg_M) (p0 : Nat) (hp0 : wg_Sht S p0) {r0 : Int32} (h : f_X4_isMissing C p0 = some r0) : wg_Ci l yX4_isMissing cX4_isMissing 1 (some .boolean) 0 0 E ad S C M [.ref (ad p0)] r0 C M := by
  refine wg_start (own := RX4) (by decide +kernel) rfl (Nat.le_of_ble_eq_true rfl) ?_
  intro p e s m below meth c X hr hnm
  refine wg_lv (lv' := [(0, .ref (ad p0))]) rfl ?_
  unfold f_X4_isMissing at h
  refine wg_aload_n X 0 dX4_isMissing_0 rfl rfl ?_
  refine wg_getC X cl4 hp0.1 1 (by decide) dX4_isMissing_1 k_271 rfl ?_
  refine wg_iconst (v := -1) X dX4_isMissing_4 (by decide) ?_
  refine wg_icmp_ne X 12 dX4_isMissing_5 (by decide) (fun c1 => ?_) (fun c1 => ?_)
  · have h := if_f c1 h
    refine wg_iconst (v := 0) X dX4_isMissing_12 (by decide) ?_
    exact wg_zret X ⟨(sm_inj h), rfl, rfl⟩ hr (by decide) dX4_isMissing_13
  · have h := if_t c1 h
    refine wg_iconst (v := 1) X dX4_isMissing_8 (by decide) ?_
    refine wg_goto X 13 dX4_isMissing_9 (by decide) ?_
    exact wg_zret X ⟨(sm_inj h), rfl, rfl⟩ hr (by decide) dX4_isMissing_13
-- WindowsGive.refusalOfLook(IIIII)I (('c', 0), 'i', 'i', 'i', 'i', 'i')
def f_X8_refusalOfLook (C : wg_C) (p1 : Int32) (p2 : Int32) (p3 : Int32) (p4 : Int32) (p5 : Int32) : Option Int32 :=
  bd (f_X8_isSheet p1) fun r2 =>
  if r2 = 0 then (
    some (-2 : Int32))
  else (
    bd (f_X0_has C p2) fun r5 =>
    if r5 = 0 then (
      some (-2 : Int32))
    else (
      bd (f_X8_isDay p3) fun r8 =>
      if r8 = 0 then (
        some (-2 : Int32))
      else (
        if p4 < 0 then (
          some (-2 : Int32))
        else (
          if p4 ≤ p5 then (
            ck (inb p1 4) <|
            bd (f_X4_isMissing C (44 + 2 * p1.toNatClampNeg)) fun r14 =>
            if r14 = 0 then (
              ck (inb p1 4) <|
              if (C (44 + 2 * p1.toNatClampNeg) 2) ≤ (10 : Int32) then (
                some (0 : Int32))
              else (
                some (-2 : Int32)))
            else (
              some (-11 : Int32)))
          else (
            some (-2 : Int32))))))
set_option maxHeartbeats 4000000 in
set_option maxRecDepth 100000 in
theorem c_X8_refusalOfLook (l : Launch) (E : wg_Ev) (ad : Nat → Nat) (S : wg_Sh) (hS : wg_SC S) (C : wg_C) (M : wg_M) (p1 : Int32) (p2 : Int32) (p3 : Int32) (p4 : Int32) (p5 : Int32)  {r0 : Int32} (h : f_X8_refusalOfLook C p1 p2 p3 p4 p5 = some r0) : wg_Ci l yX8_refusalOfLook cX8_refusalOfLook 6 (some .int) 1 21 E ad S C M [.ref (ad 0), .int p1, .int p2, .int p3, .int p4, .int p5] r0 C M := by
  refine wg_start (own := RX8) (by decide +kernel) rfl (Nat.le_of_ble_eq_true rfl) ?_
  intro p e s m below meth c X hr hnm
  refine wg_lv (lv' := [(0, .ref (ad 0)), (1, .int p1), (2, .int p2), (3, .int p3), (4, .int p4), (5, .int p5)]) rfl ?_
  unfold f_X8_refusalOfLook at h
  refine wg_iload_n X 1 dX8_refusalOfLook_0 rfl rfl ?_
  obtain ⟨r2, h1, h⟩ := bd_some h
  refine wg_callSi (As := [.int p1]) (rest := []) X (c_X8_isSheet l E ad S C M p1  h1) T_yX8_isSheet k_711 dX8_refusalOfLook_1 rfl rfl (Nat.le_of_ble_eq_true rfl) ⟨Nat.le_of_ble_eq_true rfl, Nat.le_of_ble_eq_true rfl⟩ ⟨Nat.zero_le _, Nat.zero_le _⟩ ?_
  refine wg_if_eq X 37 dX8_refusalOfLook_4 (by decide) (fun c3 => ?_) (fun c3 => ?_)
  · have h := if_t c3 h
    refine wg_bipush (v := -2) X dX8_refusalOfLook_37 (by decide) ?_
    exact wg_iret X ⟨(sm_inj h), rfl, rfl⟩ hr dX8_refusalOfLook_39
  · have h := if_f c3 h
    refine wg_aload_n X 0 dX8_refusalOfLook_7 rfl rfl ?_
    refine wg_getR (b := 1) X cl8 (SCi hS 0 8 rfl) 0 (by decide) dX8_refusalOfLook_8 k_472 rfl (SCr hS 0 0 1 rfl) ?_
    refine wg_iload_n X 2 dX8_refusalOfLook_11 rfl rfl ?_
    obtain ⟨r5, h4, h⟩ := bd_some h
    refine wg_callVi (As := [.int p2]) (rest := []) X (c_X0_has l E ad S hS C M p2  h4) T_yX0_has k_520 cl0 (SCi hS 1 0 rfl) dX8_refusalOfLook_12 rfl rfl (Nat.le_of_ble_eq_true rfl) ⟨Nat.le_of_ble_eq_true rfl, Nat.le_of_ble_eq_true rfl⟩ ⟨Nat.zero_le _, Nat.zero_le _⟩ ?_
    refine wg_if_eq X 37 dX8_refusalOfLook_15 (by decide) (fun c6 => ?_) (fun c6 => ?_)
    · have h := if_t c6 h
      refine wg_bipush (v := -2) X dX8_refusalOfLook_37 (by decide) ?_
      exact wg_iret X ⟨(sm_inj h), rfl, rfl⟩ hr dX8_refusalOfLook_39
    · have h := if_f c6 h
      refine wg_iload_n X 3 dX8_refusalOfLook_18 rfl rfl ?_
      obtain ⟨r8, h7, h⟩ := bd_some h
      refine wg_callSi (As := [.int p3]) (rest := []) X (c_X8_isDay l E ad S C M p3  h7) T_yX8_isDay k_517 dX8_refusalOfLook_19 rfl rfl (Nat.le_of_ble_eq_true rfl) ⟨Nat.le_of_ble_eq_true rfl, Nat.le_of_ble_eq_true rfl⟩ ⟨Nat.zero_le _, Nat.zero_le _⟩ ?_
      refine wg_if_eq X 37 dX8_refusalOfLook_22 (by decide) (fun c9 => ?_) (fun c9 => ?_)
      · have h := if_t c9 h
        refine wg_bipush (v := -2) X dX8_refusalOfLook_37 (by decide) ?_
        exact wg_iret X ⟨(sm_inj h), rfl, rfl⟩ hr dX8_refusalOfLook_39
      · have h := if_f c9 h
        refine wg_iload X 4 dX8_refusalOfLook_25 rfl ?_
        refine wg_if_lt X 37 dX8_refusalOfLook_27 (by decide) (fun c10 => ?_) (fun c10 => ?_)
        · have h := if_t c10 h
          refine wg_bipush (v := -2) X dX8_refusalOfLook_37 (by decide) ?_
          exact wg_iret X ⟨(sm_inj h), rfl, rfl⟩ hr dX8_refusalOfLook_39
        · have h := if_f c10 h
          refine wg_iload X 4 dX8_refusalOfLook_30 rfl ?_
          refine wg_iload X 5 dX8_refusalOfLook_32 rfl ?_
          refine wg_icmp_le X 40 dX8_refusalOfLook_34 (by decide) (fun c11 => ?_) (fun c11 => ?_)
          · have h := if_t c11 h
            refine wg_aload_n X 0 dX8_refusalOfLook_40 rfl rfl ?_
            refine wg_getR (b := 39) X cl8 (SCi hS 0 8 rfl) 7 (by decide) dX8_refusalOfLook_41 k_479 rfl (SCr hS 0 7 39 rfl) ?_
            refine wg_iload_n X 1 dX8_refusalOfLook_44 rfl rfl ?_
            obtain ⟨z12, h⟩ := ck_some h
            refine wg_aalS14 (b := 44 + 2 * p1.toNatClampNeg) X (SCi hS 39 14 rfl) (SCl hS 39 4 rfl) z12 (SCs hS (inb_lt z12)).1 dX8_refusalOfLook_45 ?_
            obtain ⟨r14, h13, h⟩ := bd_some h
            refine wg_callVi (As := []) (rest := []) X (c_X4_isMissing l E ad S hS C M (44 + 2 * p1.toNatClampNeg) ((SCs hS (inb_lt z12)).2) h13) T_yX4_isMissing k_714 cl4 ((SCs hS (inb_lt z12)).2.1) dX8_refusalOfLook_46 rfl rfl (Nat.le_of_ble_eq_true rfl) ⟨Nat.le_of_ble_eq_true rfl, Nat.le_of_ble_eq_true rfl⟩ ⟨Nat.zero_le _, Nat.zero_le _⟩ ?_
            refine wg_if_eq X 55 dX8_refusalOfLook_49 (by decide) (fun c15 => ?_) (fun c15 => ?_)
            · have h := if_t c15 h
              refine wg_aload_n X 0 dX8_refusalOfLook_55 rfl rfl ?_
              refine wg_getR (b := 39) X cl8 (SCi hS 0 8 rfl) 7 (by decide) dX8_refusalOfLook_56 k_479 rfl (SCr hS 0 7 39 rfl) ?_
              refine wg_iload_n X 1 dX8_refusalOfLook_59 rfl rfl ?_
              obtain ⟨z16, h⟩ := ck_some h
              refine wg_aalS14 (b := 44 + 2 * p1.toNatClampNeg) X (SCi hS 39 14 rfl) (SCl hS 39 4 rfl) z16 (SCs hS (inb_lt z16)).1 dX8_refusalOfLook_60 ?_
              refine wg_getC X cl4 (SCs hS (inb_lt z16)).2.1 2 (by decide) dX8_refusalOfLook_61 k_274 rfl ?_
              refine wg_bipush (v := 10) X dX8_refusalOfLook_64 (by decide) ?_
              refine wg_icmp_le X 74 dX8_refusalOfLook_66 (by decide) (fun c17 => ?_) (fun c17 => ?_)
              · have h := if_t c17 h
                refine wg_iconst (v := 0) X dX8_refusalOfLook_74 (by decide) ?_
                exact wg_iret X ⟨(sm_inj h), rfl, rfl⟩ hr dX8_refusalOfLook_75
              · have h := if_f c17 h
                refine wg_bipush (v := -2) X dX8_refusalOfLook_69 (by decide) ?_
                refine wg_goto X 75 dX8_refusalOfLook_71 (by decide) ?_
                exact wg_iret X ⟨(sm_inj h), rfl, rfl⟩ hr dX8_refusalOfLook_75
            · have h := if_f c15 h
              refine wg_bipush (v := -11) X dX8_refusalOfLook_52 (by decide) ?_
              exact wg_iret X ⟨(sm_inj h), rfl, rfl⟩ hr dX8_refusalOfLook_54
          · have h := if_f c11 h
            refine wg_bipush (v := -2) X dX8_refusalOfLook_37 (by decide) ?_
            exact wg_iret X ⟨(sm_inj h), rfl, rfl⟩ hr dX8_refusalOfLook_39
-- WindowsGive$Pane.become(LWindowsGive$Pane;)V ('P', 'P')
def f_X1_become (C : wg_C) (p0 : Nat) (p1 : Nat) : Option wg_C :=
  lt_ (wg_up C p0 1 (C p1 1)) fun C1 =>
  lt_ (wg_up C1 p0 2 (C1 p1 2)) fun C3 =>
  lt_ (wg_up C3 p0 3 (C3 p1 3)) fun C5 =>
  lt_ (wg_up C5 p0 4 (C5 p1 4)) fun C7 =>
  lt_ (wg_up C7 p0 5 (C7 p1 5)) fun C9 =>
  some C9
set_option maxHeartbeats 4000000 in
set_option maxRecDepth 100000 in
theorem c_X1_become (l : Launch) (E : wg_Ev) (ad : Nat → Nat) (S : wg_Sh) (hS : wg_SC S) (C : wg_C) (M : wg_M) (p0 : Nat) (p1 : Nat) (hp0 : wg_id S p0 1) (hp1 : wg_id S p1 1) {D0 : wg_C} (h : f_X1_become C p0 p1 = some D0) : wg_Cv l yX1_become cX1_become 2 none 0 0 E ad S C M [.ref (ad p0), .ref (ad p1)] D0 M := by
  refine wg_start (own := RX1) (by decide +kernel) rfl (Nat.le_of_ble_eq_true rfl) ?_
  intro p e s m below meth c X hr hnm
  refine wg_lv (lv' := [(0, .ref (ad p0)), (1, .ref (ad p1))]) rfl ?_
  unfold f_X1_become at h
  refine wg_aload_n X 0 dX1_become_0 rfl rfl ?_
  refine wg_aload_n X 1 dX1_become_1 rfl rfl ?_
  refine wg_getC X cl1 hp1 1 (by decide) dX1_become_2 k_112 rfl ?_
  obtain ⟨C1, e2, h⟩ := lt_some h
  refine wg_putCe X cl1 hp0 1 (by decide) dX1_become_5 k_112 rfl rfl rfl rfl e2 ?_
  refine wg_aload_n X 0 dX1_become_8 rfl rfl ?_
  refine wg_aload_n X 1 dX1_become_9 rfl rfl ?_
  refine wg_getC X cl1 hp1 2 (by decide) dX1_become_10 k_114 rfl ?_
  obtain ⟨C3, e4, h⟩ := lt_some h
  refine wg_putCe X cl1 hp0 2 (by decide) dX1_become_13 k_114 rfl rfl rfl rfl e4 ?_
  refine wg_aload_n X 0 dX1_become_16 rfl rfl ?_
  refine wg_aload_n X 1 dX1_become_17 rfl rfl ?_
  refine wg_getC X cl1 hp1 3 (by decide) dX1_become_18 k_117 rfl ?_
  obtain ⟨C5, e6, h⟩ := lt_some h
  refine wg_putCe X cl1 hp0 3 (by decide) dX1_become_21 k_117 rfl rfl rfl rfl e6 ?_
  refine wg_aload_n X 0 dX1_become_24 rfl rfl ?_
  refine wg_aload_n X 1 dX1_become_25 rfl rfl ?_
  refine wg_getC X cl1 hp1 4 (by decide) dX1_become_26 k_120 rfl ?_
  obtain ⟨C7, e8, h⟩ := lt_some h
  refine wg_putCe X cl1 hp0 4 (by decide) dX1_become_29 k_120 rfl rfl rfl rfl e8 ?_
  refine wg_aload_n X 0 dX1_become_32 rfl rfl ?_
  refine wg_aload_n X 1 dX1_become_33 rfl rfl ?_
  refine wg_getC X cl1 hp1 5 (by decide) dX1_become_34 k_124 rfl ?_
  obtain ⟨C9, e10, h⟩ := lt_some h
  refine wg_putCe X cl1 hp0 5 (by decide) dX1_become_37 k_124 rfl rfl rfl rfl e10 ?_
  exact wg_vret X ⟨(sm_inj h), rfl⟩ hr dX1_become_40
-- WindowsGive$House.shows(LWindowsGive$Pane;I)I (('c', 1), 'P', 'i')
def f_X0_shows (C : wg_C) (p1 : Nat) (p2 : Int32) : Option Int32 :=
  bd (f_X8_isDay p2) fun r2 =>
  if r2 = 0 then (
    some (-1 : Int32))
  else (
    bd (f_X1_passes C p1 p2 (0 : Int32)) fun r5 =>
    if r5 = 0 then (
      some (-1 : Int32))
    else (
      bd (f_X1_on C p1 p2) fun r8 =>
      ck (inb r8 32) <|
      some (C 2 r8.toNatClampNeg)))
set_option maxHeartbeats 4000000 in
set_option maxRecDepth 100000 in
theorem c_X0_shows (l : Launch) (E : wg_Ev) (ad : Nat → Nat) (S : wg_Sh) (hS : wg_SC S) (C : wg_C) (M : wg_M) (p1 : Nat) (p2 : Int32) (hp1 : wg_id S p1 1) {r0 : Int32} (h : f_X0_shows C p1 p2 = some r0) : wg_Ci l yX0_shows cX0_shows 3 (some .int) 2 44 E ad S C M [.ref (ad 1), .ref (ad p1), .int p2] r0 C M := by
  refine wg_start (own := RX0) (by decide +kernel) rfl (Nat.le_of_ble_eq_true rfl) ?_
  intro p e s m below meth c X hr hnm
  refine wg_lv (lv' := [(0, .ref (ad 1)), (1, .ref (ad p1)), (2, .int p2)]) rfl ?_
  unfold f_X0_shows at h
  refine wg_iload_n X 2 dX0_shows_0 rfl rfl ?_
  obtain ⟨r2, h1, h⟩ := bd_some h
  refine wg_callNi (host := "WindowsGive") (As := [.int p2]) (rest := []) X (c_X8_isDay l E ad S C M p2  h1) T_yX8_isDay (by simp [wg_nest]) dX0_shows_1 rfl rfl (Nat.le_of_ble_eq_true rfl) ⟨Nat.le_of_ble_eq_true rfl, Nat.le_of_ble_eq_true rfl⟩ ⟨Nat.zero_le _, Nat.zero_le _⟩ ?_
  refine wg_if_eq X 29 dX0_shows_4 (by decide) (fun c3 => ?_) (fun c3 => ?_)
  · have h := if_t c3 h
    refine wg_iconst (v := -1) X dX0_shows_29 (by decide) ?_
    exact wg_iret X ⟨(sm_inj h), rfl, rfl⟩ hr dX0_shows_30
  · have h := if_f c3 h
    refine wg_aload_n X 1 dX0_shows_7 rfl rfl ?_
    refine wg_iload_n X 2 dX0_shows_8 rfl rfl ?_
    refine wg_iconst (v := 0) X dX0_shows_9 (by decide) ?_
    obtain ⟨r5, h4, h⟩ := bd_some h
    refine wg_callVi (As := [.int p2, .int (0 : Int32)]) (rest := []) X (c_X1_passes l E ad S hS C M p1 p2 (0 : Int32) hp1 h4) T_yX1_passes k_727 cl1 hp1 dX0_shows_10 rfl rfl (Nat.le_of_ble_eq_true rfl) ⟨Nat.le_of_ble_eq_true rfl, Nat.le_of_ble_eq_true rfl⟩ ⟨Nat.zero_le _, Nat.zero_le _⟩ ?_
    refine wg_if_eq X 29 dX0_shows_13 (by decide) (fun c6 => ?_) (fun c6 => ?_)
    · have h := if_t c6 h
      refine wg_iconst (v := -1) X dX0_shows_29 (by decide) ?_
      exact wg_iret X ⟨(sm_inj h), rfl, rfl⟩ hr dX0_shows_30
    · have h := if_f c6 h
      refine wg_aload_n X 0 dX0_shows_16 rfl rfl ?_
      refine wg_getR (b := 2) X cl0 (SCi hS 1 0 rfl) 0 (by decide) dX0_shows_17 k_140 rfl (SCr hS 1 0 2 rfl) ?_
      refine wg_aload_n X 1 dX0_shows_20 rfl rfl ?_
      refine wg_iload_n X 2 dX0_shows_21 rfl rfl ?_
      obtain ⟨r8, h7, h⟩ := bd_some h
      refine wg_callVi (As := [.int p2]) (rest := [.ref (ad 2)]) X (c_X1_on l E ad S hS C M p1 p2 hp1 h7) T_yX1_on k_728 cl1 hp1 dX0_shows_22 rfl rfl (Nat.le_of_ble_eq_true rfl) ⟨Nat.le_of_ble_eq_true rfl, Nat.le_of_ble_eq_true rfl⟩ ⟨Nat.zero_le _, Nat.zero_le _⟩ ?_
      obtain ⟨z9, h⟩ := ck_some h
      refine wg_iald X (SCi hS 2 10 rfl) (SCl hS 2 32 rfl) z9 dX0_shows_25 ?_
      refine wg_goto X 30 dX0_shows_26 (by decide) ?_
      exact wg_iret X ⟨(sm_inj h), rfl, rfl⟩ hr dX0_shows_30
-- WindowsGive.firstOther(LWindowsGive$Sheet;LWindowsGive$Pane;I)I (('c', 0), 'SH', 'P', 'i')
def f_X8_firstOther_l3 (N : Nat) (p1 : Nat) (p2 : Nat) (C : wg_C)  (x3 : Int32) (x4 : Int32) : Option ((Int32) ⊕ ((Int32) ⊕ Int32)) :=
  if (C p1 2) ≤ x4 then (
    some (.inr (.inl x4)))
  else (
    ck (inb x4 40) <|
    bd (f_X0_shows C p2 (x3 + x4)) fun r4 =>
    if (C (p1 + 1) x4.toNatClampNeg) = r4 then (
      lt_ (x4 + (1 : Int32)) fun v6 =>
      some (.inl v6))
    else (
      some (.inr (.inr x4))))
def f_X8_firstOther (N : Nat) (C : wg_C) (p1 : Nat) (p2 : Nat) (p3 : Int32) : Option Int32 :=
  bs1 (lp (fun o => f_X8_firstOther_l3 N p1 p2 C  p3 o) N (0 : Int32)) (fun v8 =>
    some (-1 : Int32))
    (fun q11 => some q11)
abbrev G_X8_firstOther (p : Program) (l : Launch) (e : Env) (s : State) (m : MethodId) (args : Array Value) (below : List Frame) (meth : Method) (c : Code) (E : wg_Ev) (ad : Nat → Nat) (S : wg_Sh) (r0 : Int32) (C0 : wg_C) (M0 : wg_M) (pc : Nat) (C : wg_C) (M : wg_M) (lv : List (Nat × Value)) (st : List Value) : Prop := wg_G p l e (wg_Rm 3 66) s m args below meth c (MQ below (wg_Qi E ad S r0 C0 M0) args s 0 0 (wg_A E)) 5 E ad S 0 0 pc C M lv st
set_option maxHeartbeats 4000000 in
set_option maxRecDepth 100000 in
theorem L_X8_firstOther_l3 {p : Program} {l : Launch} {e : Env} {s : State} {m : MethodId} {args : Array Value} {below : List Frame} {meth : Method} {c : Code} {E : wg_Ev} {ad : Nat → Nat} {S : wg_Sh} (X : wg_X p s m args meth c cX8_firstOther 5 RX8 E) (hr : meth.sig.returnType = (some .int)) (hS : wg_SC S) (r0 : Int32) (M : wg_M) (N : Nat) (p1 : Nat) (hp1 : wg_Sht S p1) (p2 : Nat) (hp2 : wg_id S p2 1) (C : wg_C)  (x3 : Int32)  : ∀ (n : Nat) (x4 : Int32) (o : ((Int32) ⊕ Int32)), lp (fun o => f_X8_firstOther_l3 N p1 p2 C  x3 o) n x4 = some o → (∀ (y4 : Int32), o = Sum.inl y4 → G_X8_firstOther p l e s m args below meth c E ad S r0 C M 43 C M [(0, .ref (ad 0)), (1, .ref (ad p1)), (2, .ref (ad p2)), (3, .int x3), (4, .int y4)] []) → (∀ q : Int32, o = Sum.inr q → q = r0) → G_X8_firstOther p l e s m args below meth c E ad S r0 C M 3 C M [(0, .ref (ad 0)), (1, .ref (ad p1)), (2, .ref (ad p2)), (3, .int x3), (4, .int x4)] [] := by
  intro n
  induction n with
  | zero => exact fun _ o h => (lp_zero h).elim
  | succ n ih =>
    intro x4 o h K KR
    obtain ⟨o1, hb, h2⟩ := lp_some h
    replace hb : f_X8_firstOther_l3 N p1 p2 C  x3 x4 = some o1 := hb
    clear h
    have Kc : ∀ (y4 : Int32), o1 = Sum.inl y4 → G_X8_firstOther p l e s m args below meth c E ad S r0 C M 3 C M [(0, .ref (ad 0)), (1, .ref (ad p1)), (2, .ref (ad p2)), (3, .int x3), (4, .int y4)] [] := fun y4 e1 => by
      subst e1
      exact ih y4 o h2 K KR
    have Ke : ∀ (y4 : Int32), o1 = Sum.inr (Sum.inl y4) → G_X8_firstOther p l e s m args below meth c E ad S r0 C M 43 C M [(0, .ref (ad 0)), (1, .ref (ad p1)), (2, .ref (ad p2)), (3, .int x3), (4, .int y4)] [] := fun y4 e1 => by
      subst e1
      exact K y4 (sm_inj (α := ((Int32) ⊕ Int32)) h2).symm
    have Kr : ∀ q : Int32, o1 = Sum.inr (Sum.inr q) → q = r0 := fun q e1 => by
      subst e1
      exact KR q (sm_inj (α := ((Int32) ⊕ Int32)) h2).symm
    clear ih K h2 KR
    unfold f_X8_firstOther_l3 at hb
    have h := hb
    clear hb
    refine wg_iload X 4 dX8_firstOther_3 rfl ?_
    refine wg_aload_n X 1 dX8_firstOther_5 rfl rfl ?_
    refine wg_getC X cl4 hp1.1 2 (by decide) dX8_firstOther_6 k_274 rfl ?_
    refine wg_icmp_ge X 43 dX8_firstOther_9 (by decide) (fun c1 => ?_) (fun c1 => ?_)
    · have h := if_t c1 h
      exact Ke x4 (sm_inj h).symm
    · have h := if_f c1 h
      refine wg_aload_n X 1 dX8_firstOther_12 rfl rfl ?_
      refine wg_getR (b := (p1 + 1)) X cl4 hp1.1 0 (by decide) dX8_firstOther_13 k_270 rfl hp1.2.1 ?_
      refine wg_iload X 4 dX8_firstOther_16 rfl ?_
      obtain ⟨z2, h⟩ := ck_some h
      refine wg_iald X hp1.2.2.1 hp1.2.2.2 z2 dX8_firstOther_18 ?_
      refine wg_aload_n X 0 dX8_firstOther_19 rfl rfl ?_
      refine wg_getR (b := 1) X cl8 (SCi hS 0 8 rfl) 0 (by decide) dX8_firstOther_20 k_472 rfl (SCr hS 0 0 1 rfl) ?_
      refine wg_aload_n X 2 dX8_firstOther_23 rfl rfl ?_
      refine wg_iload_n X 3 dX8_firstOther_24 rfl rfl ?_
      refine wg_iload X 4 dX8_firstOther_25 rfl ?_
      refine wg_iadd X dX8_firstOther_27 ?_
      obtain ⟨r4, h3, h⟩ := bd_some h
      refine wg_callVi (As := [.ref (ad p2), .int (x3 + x4)]) (rest := [.int (C (p1 + 1) x4.toNatClampNeg)]) X (c_X0_shows l E ad S hS C M p2 (x3 + x4) hp2 h3) T_yX0_shows k_722 cl0 (SCi hS 1 0 rfl) dX8_firstOther_28 rfl rfl (Nat.le_of_ble_eq_true rfl) ⟨Nat.le_of_ble_eq_true rfl, Nat.le_of_ble_eq_true rfl⟩ ⟨Nat.zero_le _, Nat.zero_le _⟩ ?_
      refine wg_icmp_eq X 37 dX8_firstOther_31 (by decide) (fun c5 => ?_) (fun c5 => ?_)
      · have h := if_t c5 h
        obtain ⟨v6, e7, h⟩ := lt_some h
        refine wg_iinc (lv' := [(4, .int v6), (0, .ref (ad 0)), (1, .ref (ad p1)), (2, .ref (ad p2)), (3, .int x3)]) X 4 dX8_firstOther_37 rfl e7 (by decide) rfl ?_
        refine wg_goto X 3 dX8_firstOther_40 (by decide) ?_
        refine wg_pick [1, 2, 3, 4, 0] (lv' := [(0, .ref (ad 0)), (1, .ref (ad p1)), (2, .ref (ad p2)), (3, .int x3), (4, .int v6)]) rfl ?_
        exact Kc v6 (sm_inj h).symm
      · have h := if_f c5 h
        refine wg_iload X 4 dX8_firstOther_34 rfl ?_
        have hq := Kr _ (sm_inj h).symm
        exact wg_iret X ⟨hq, rfl, rfl⟩ hr dX8_firstOther_36
set_option maxHeartbeats 4000000 in
set_option maxRecDepth 100000 in
theorem c_X8_firstOther (l : Launch) (E : wg_Ev) (ad : Nat → Nat) (S : wg_Sh) (hS : wg_SC S) (N : Nat) (C : wg_C) (M : wg_M) (p1 : Nat) (p2 : Nat) (p3 : Int32) (hp1 : wg_Sht S p1) (hp2 : wg_id S p2 1) {r0 : Int32} (h : f_X8_firstOther N C p1 p2 p3 = some r0) : wg_Ci l yX8_firstOther cX8_firstOther 5 (some .int) 3 66 E ad S C M [.ref (ad 0), .ref (ad p1), .ref (ad p2), .int p3] r0 C M := by
  refine wg_start (own := RX8) (by decide +kernel) rfl (Nat.le_of_ble_eq_true rfl) ?_
  intro p e s m below meth c X hr hnm
  refine wg_lv (lv' := [(0, .ref (ad 0)), (1, .ref (ad p1)), (2, .ref (ad p2)), (3, .int p3)]) rfl ?_
  unfold f_X8_firstOther at h
  refine wg_iconst (v := 0) X dX8_firstOther_0 (by decide) ?_
  refine wg_istore (lv' := [(4, .int (0 : Int32)), (0, .ref (ad 0)), (1, .ref (ad p1)), (2, .ref (ad p2)), (3, .int p3)]) X dX8_firstOther_1 rfl (by decide) rfl ?_
  obtain ⟨o9, h10, h⟩ := bs1_o h
  refine wg_pick [1, 2, 3, 4, 0] (lv' := [(0, .ref (ad 0)), (1, .ref (ad p1)), (2, .ref (ad p2)), (3, .int p3), (4, .int (0 : Int32))]) rfl ?_
  refine L_X8_firstOther_l3 X hr hS r0 M N p1 hp1 p2 hp2 C  p3  N (0 : Int32) o9 h10 (fun v8 e12 => ?_) (fun q11 e12 => ?_)
  · subst e12
    replace h := bs1_in h
    refine wg_iconst (v := -1) X dX8_firstOther_43 (by decide) ?_
    exact wg_iret X ⟨(sm_inj h), rfl, rfl⟩ hr dX8_firstOther_44
  · subst e12
    replace h := bs1_r h
    exact sm_inj h
-- WindowsGive.fittingKinds(LWindowsGive$Sheet;LWindowsGive$Pane;I)I (('c', 0), 'SH', 'P', 'i')
def f_X8_fittingKinds_l14 (N : Nat) (p1 : Nat) (p2 : Nat)  (x3 : Int32) (C : wg_C) (x4 : Int32) (x5 : Int32) : Option ((wg_C × Int32 × Int32) ⊕ (wg_C × Int32 × Int32)) :=
  if (5 : Int32) < x5 then (
    some (.inr (C, x4, x5)))
  else (
    lt_ (wg_up C 40 1 x5) fun C4 =>
    bd (f_X8_firstOther N C4 p1 40 x3) fun r7 =>
    if r7 = (-1 : Int32) then (
      lt_ (x4 ||| ((1 : Int32) <<< (x5 &&& 31))) fun v11 =>
      lt_ (x5 + (1 : Int32)) fun v13 =>
      some (.inl (C4, v11, v13)))
    else (
      lt_ (x5 + (1 : Int32)) fun v9 =>
      some (.inl (C4, x4, v9))))
def f_X8_fittingKinds (N : Nat) (C : wg_C) (p1 : Nat) (p2 : Nat) (p3 : Int32) : Option (Int32 × wg_C) :=
  bd (f_X1_become C 40 p2) fun C2 =>
  bd3 (lp (fun o => f_X8_fittingKinds_l14 N p1 p2  p3 o.1 o.2.1 o.2.2) N (C2, (0 : Int32), (0 : Int32))) fun C15 v16 v17 =>
  some (v16, C15)
abbrev G_X8_fittingKinds (p : Program) (l : Launch) (e : Env) (s : State) (m : MethodId) (args : Array Value) (below : List Frame) (meth : Method) (c : Code) (E : wg_Ev) (ad : Nat → Nat) (S : wg_Sh) (r0 : Int32) (C0 : wg_C) (M0 : wg_M) (pc : Nat) (C : wg_C) (M : wg_M) (lv : List (Nat × Value)) (st : List Value) : Prop := wg_G p l e (wg_Rm 4 90) s m args below meth c (MQ below (wg_Qi E ad S r0 C0 M0) args s 0 0 (wg_A E)) 6 E ad S 0 0 pc C M lv st
set_option maxHeartbeats 4000000 in
set_option maxRecDepth 100000 in
theorem L_X8_fittingKinds_l14 {p : Program} {l : Launch} {e : Env} {s : State} {m : MethodId} {args : Array Value} {below : List Frame} {meth : Method} {c : Code} {E : wg_Ev} {ad : Nat → Nat} {S : wg_Sh} (X : wg_X p s m args meth c cX8_fittingKinds 6 RX8 E) (hr : meth.sig.returnType = (some .int)) (hS : wg_SC S) (r0 : Int32) (D0 : wg_C) (M : wg_M) (N : Nat) (p1 : Nat) (hp1 : wg_Sht S p1) (p2 : Nat) (hp2 : wg_id S p2 1)  (x3 : Int32)  : ∀ (n : Nat) (C : wg_C) (x4 : Int32) (x5 : Int32) (o : (wg_C × Int32 × Int32)), lp (fun o => f_X8_fittingKinds_l14 N p1 p2  x3 o.1 o.2.1 o.2.2) n (C, x4, x5) = some o → (∀ (Dy : wg_C) (y4 : Int32) (y5 : Int32), o = (Dy, y4, y5) → G_X8_fittingKinds p l e s m args below meth c E ad S r0 D0 M 58 Dy M [(0, .ref (ad 0)), (1, .ref (ad p1)), (3, .int x3), (4, .int y4), (5, .int y5)] []) → G_X8_fittingKinds p l e s m args below meth c E ad S r0 D0 M 14 C M [(0, .ref (ad 0)), (1, .ref (ad p1)), (3, .int x3), (4, .int x4), (5, .int x5)] [] := by
  intro n
  induction n with
  | zero => exact fun _ _ _ o h => (lp_zero h).elim
  | succ n ih =>
    intro C x4 x5 o h K
    obtain ⟨o1, hb, h2⟩ := lp_some h
    replace hb : f_X8_fittingKinds_l14 N p1 p2  x3 C x4 x5 = some o1 := hb
    clear h
    have Kc : ∀ (Dy : wg_C) (y4 : Int32) (y5 : Int32), o1 = Sum.inl (Dy, y4, y5) → G_X8_fittingKinds p l e s m args below meth c E ad S r0 D0 M 14 Dy M [(0, .ref (ad 0)), (1, .ref (ad p1)), (3, .int x3), (4, .int y4), (5, .int y5)] [] := fun Dy y4 y5 e1 => by
      subst e1
      exact ih Dy y4 y5 o h2 K
    have Ke : ∀ (Dy : wg_C) (y4 : Int32) (y5 : Int32), o1 = Sum.inr ((Dy, y4, y5)) → G_X8_fittingKinds p l e s m args below meth c E ad S r0 D0 M 58 Dy M [(0, .ref (ad 0)), (1, .ref (ad p1)), (3, .int x3), (4, .int y4), (5, .int y5)] [] := fun Dy y4 y5 e1 => by
      subst e1
      exact K Dy y4 y5 (sm_inj (α := (wg_C × Int32 × Int32)) h2).symm
    clear ih K h2
    unfold f_X8_fittingKinds_l14 at hb
    have h := hb
    clear hb
    refine wg_iload X 4 dX8_fittingKinds_14 rfl ?_
    refine wg_iconst (v := 5) X dX8_fittingKinds_16 (by decide) ?_
    refine wg_icmp_gt X 58 dX8_fittingKinds_17 (by decide) (fun c3 => ?_) (fun c3 => ?_)
    · have h := if_t c3 h
      exact Ke C x4 x5 (sm_inj h).symm
    · have h := if_f c3 h
      refine wg_aload_n X 0 dX8_fittingKinds_20 rfl rfl ?_
      refine wg_getR (b := 40) X cl8 (SCi hS 0 8 rfl) 8 (by decide) dX8_fittingKinds_21 k_480 rfl (SCr hS 0 8 40 rfl) ?_
      refine wg_iload X 4 dX8_fittingKinds_24 rfl ?_
      obtain ⟨C4, e5, h⟩ := lt_some h
      refine wg_putCe X cl1 (SCi hS 40 1 rfl) 1 (by decide) dX8_fittingKinds_26 k_113 rfl rfl rfl rfl e5 ?_
      refine wg_aload_n X 0 dX8_fittingKinds_29 rfl rfl ?_
      refine wg_aload_n X 1 dX8_fittingKinds_30 rfl rfl ?_
      refine wg_aload_n X 0 dX8_fittingKinds_31 rfl rfl ?_
      refine wg_getR (b := 40) X cl8 (SCi hS 0 8 rfl) 8 (by decide) dX8_fittingKinds_32 k_480 rfl (SCr hS 0 8 40 rfl) ?_
      refine wg_iload_n X 2 dX8_fittingKinds_35 rfl rfl ?_
      obtain ⟨r7, h6, h⟩ := bd_some h
      refine wg_callVi (As := [.ref (ad p1), .ref (ad 40), .int x3]) (rest := []) X (c_X8_firstOther l E ad S hS N C4 M p1 40 x3 hp1 (SCi hS 40 1 rfl) h6) T_yX8_firstOther k_718 cl8 (SCi hS 0 8 rfl) dX8_fittingKinds_36 rfl rfl (Nat.le_of_ble_eq_true rfl) ⟨Nat.le_of_ble_eq_true rfl, Nat.le_of_ble_eq_true rfl⟩ ⟨Nat.zero_le _, Nat.zero_le _⟩ ?_
      refine wg_iconst (v := -1) X dX8_fittingKinds_39 (by decide) ?_
      refine wg_icmp_ne X 52 dX8_fittingKinds_40 (by decide) (fun c8 => ?_) (fun c8 => ?_)
      · have h := if_f c8 h
        obtain ⟨v9, e10, h⟩ := lt_some h
        refine wg_iinc (lv' := [(5, .int v9), (0, .ref (ad 0)), (1, .ref (ad p1)), (3, .int x3), (4, .int x4)]) X 4 dX8_fittingKinds_52 rfl e10 (by decide) rfl ?_
        refine wg_goto X 14 dX8_fittingKinds_55 (by decide) ?_
        refine wg_pick [1, 2, 3, 4, 0] (lv' := [(0, .ref (ad 0)), (1, .ref (ad p1)), (3, .int x3), (4, .int x4), (5, .int v9)]) rfl ?_
        exact Kc C4 x4 v9 (sm_inj h).symm
      · have h := if_t c8 h
        refine wg_iload X 3 dX8_fittingKinds_43 rfl ?_
        refine wg_iconst (v := 1) X dX8_fittingKinds_45 (by decide) ?_
        refine wg_iload X 4 dX8_fittingKinds_46 rfl ?_
        refine wg_ishl X dX8_fittingKinds_48 ?_
        refine wg_ior X dX8_fittingKinds_49 ?_
        obtain ⟨v11, e12, h⟩ := lt_some h
        refine wg_istore (lv' := [(4, .int v11), (0, .ref (ad 0)), (1, .ref (ad p1)), (3, .int x3), (5, .int x5)]) X dX8_fittingKinds_50 e12 (by decide) rfl ?_
        obtain ⟨v13, e14, h⟩ := lt_some h
        refine wg_iinc (lv' := [(5, .int v13), (4, .int v11), (0, .ref (ad 0)), (1, .ref (ad p1)), (3, .int x3)]) X 4 dX8_fittingKinds_52 rfl e14 (by decide) rfl ?_
        refine wg_goto X 14 dX8_fittingKinds_55 (by decide) ?_
        refine wg_pick [2, 3, 4, 1, 0] (lv' := [(0, .ref (ad 0)), (1, .ref (ad p1)), (3, .int x3), (4, .int v11), (5, .int v13)]) rfl ?_
        exact Kc C4 v11 v13 (sm_inj h).symm
set_option maxHeartbeats 4000000 in
set_option maxRecDepth 100000 in
theorem c_X8_fittingKinds (l : Launch) (E : wg_Ev) (ad : Nat → Nat) (S : wg_Sh) (hS : wg_SC S) (N : Nat) (C : wg_C) (M : wg_M) (p1 : Nat) (p2 : Nat) (p3 : Int32) (hp1 : wg_Sht S p1) (hp2 : wg_id S p2 1) {r0 : Int32} {D0 : wg_C} (h : f_X8_fittingKinds N C p1 p2 p3 = some (r0, D0)) : wg_Ci l yX8_fittingKinds cX8_fittingKinds 6 (some .int) 4 90 E ad S C M [.ref (ad 0), .ref (ad p1), .ref (ad p2), .int p3] r0 D0 M := by
  refine wg_start (own := RX8) (by decide +kernel) rfl (Nat.le_of_ble_eq_true rfl) ?_
  intro p e s m below meth c X hr hnm
  refine wg_lv (lv' := [(0, .ref (ad 0)), (1, .ref (ad p1)), (2, .ref (ad p2)), (3, .int p3)]) rfl ?_
  unfold f_X8_fittingKinds at h
  refine wg_iconst (v := 0) X dX8_fittingKinds_0 (by decide) ?_
  refine wg_istore (lv' := [(4, .int (0 : Int32)), (0, .ref (ad 0)), (1, .ref (ad p1)), (2, .ref (ad p2)), (3, .int p3)]) X dX8_fittingKinds_1 rfl (by decide) rfl ?_
  refine wg_aload_n X 1 dX8_fittingKinds_3 rfl rfl ?_
  refine wg_getR (b := 40) X cl8 (SCi hS 0 8 rfl) 8 (by decide) dX8_fittingKinds_4 k_480 rfl (SCr hS 0 8 40 rfl) ?_
  refine wg_aload_n X 3 dX8_fittingKinds_7 rfl rfl ?_
  obtain ⟨C2, h1, h⟩ := bd_some h
  refine wg_callVv (As := [.ref (ad p2)]) (rest := []) X (c_X1_become l E ad S hS C M 40 p2 (SCi hS 40 1 rfl) hp2 h1) T_yX1_become k_733 cl1 (SCi hS 40 1 rfl) dX8_fittingKinds_8 rfl rfl (Nat.le_of_ble_eq_true rfl) ⟨Nat.le_of_ble_eq_true rfl, Nat.le_of_ble_eq_true rfl⟩ ⟨Nat.zero_le _, Nat.zero_le _⟩ ?_
  refine wg_iconst (v := 0) X dX8_fittingKinds_11 (by decide) ?_
  refine wg_istore (lv' := [(5, .int (0 : Int32)), (4, .int (0 : Int32)), (0, .ref (ad 0)), (1, .ref (ad p1)), (2, .ref (ad p2)), (3, .int p3)]) X dX8_fittingKinds_12 rfl (by decide) rfl ?_
  obtain ⟨o18, h19, h⟩ := bd3_o h
  refine wg_pick [2, 3, 5, 1, 0] (lv' := [(0, .ref (ad 0)), (1, .ref (ad p1)), (3, .int p3), (4, .int (0 : Int32)), (5, .int (0 : Int32))]) rfl ?_
  refine L_X8_fittingKinds_l14 X hr hS r0 D0 M N p1 hp1 p2 hp2  p3  N C2 (0 : Int32) (0 : Int32) o18 h19 (fun C15 v16 v17 e21 => ?_)
  · subst e21
    replace h := bd3_in h
    refine wg_iload X 3 dX8_fittingKinds_58 rfl ?_
    exact wg_iret X ⟨(Prod.mk.inj (sm_inj h)).1, (Prod.mk.inj (sm_inj h)).2, rfl⟩ hr dX8_fittingKinds_60
-- WindowsGive.fittingShifts(LWindowsGive$Sheet;LWindowsGive$Pane;I)I (('c', 0), 'SH', 'P', 'i')
def f_X8_fittingShifts_l14 (N : Nat) (p1 : Nat) (p2 : Nat)  (x3 : Int32) (C : wg_C) (x4 : Int32) (x5 : Int32) : Option ((wg_C × Int32 × Int32) ⊕ (wg_C × Int32 × Int32)) :=
  if (18 : Int32) < x5 then (
    some (.inr (C, x4, x5)))
  else (
    lt_ (wg_up C 40 3 (x5 - (9 : Int32))) fun C4 =>
    bd (f_X8_firstOther N C4 p1 40 x3) fun r7 =>
    if r7 = (-1 : Int32) then (
      lt_ (x4 ||| ((1 : Int32) <<< (x5 &&& 31))) fun v11 =>
      lt_ (x5 + (1 : Int32)) fun v13 =>
      some (.inl (C4, v11, v13)))
    else (
      lt_ (x5 + (1 : Int32)) fun v9 =>
      some (.inl (C4, x4, v9))))
def f_X8_fittingShifts (N : Nat) (C : wg_C) (p1 : Nat) (p2 : Nat) (p3 : Int32) : Option (Int32 × wg_C) :=
  bd (f_X1_become C 40 p2) fun C2 =>
  bd3 (lp (fun o => f_X8_fittingShifts_l14 N p1 p2  p3 o.1 o.2.1 o.2.2) N (C2, (0 : Int32), (0 : Int32))) fun C15 v16 v17 =>
  some (v16, C15)
abbrev G_X8_fittingShifts (p : Program) (l : Launch) (e : Env) (s : State) (m : MethodId) (args : Array Value) (below : List Frame) (meth : Method) (c : Code) (E : wg_Ev) (ad : Nat → Nat) (S : wg_Sh) (r0 : Int32) (C0 : wg_C) (M0 : wg_M) (pc : Nat) (C : wg_C) (M : wg_M) (lv : List (Nat × Value)) (st : List Value) : Prop := wg_G p l e (wg_Rm 4 90) s m args below meth c (MQ below (wg_Qi E ad S r0 C0 M0) args s 0 0 (wg_A E)) 6 E ad S 0 0 pc C M lv st
set_option maxHeartbeats 4000000 in
set_option maxRecDepth 100000 in
theorem L_X8_fittingShifts_l14 {p : Program} {l : Launch} {e : Env} {s : State} {m : MethodId} {args : Array Value} {below : List Frame} {meth : Method} {c : Code} {E : wg_Ev} {ad : Nat → Nat} {S : wg_Sh} (X : wg_X p s m args meth c cX8_fittingShifts 6 RX8 E) (hr : meth.sig.returnType = (some .int)) (hS : wg_SC S) (r0 : Int32) (D0 : wg_C) (M : wg_M) (N : Nat) (p1 : Nat) (hp1 : wg_Sht S p1) (p2 : Nat) (hp2 : wg_id S p2 1)  (x3 : Int32)  : ∀ (n : Nat) (C : wg_C) (x4 : Int32) (x5 : Int32) (o : (wg_C × Int32 × Int32)), lp (fun o => f_X8_fittingShifts_l14 N p1 p2  x3 o.1 o.2.1 o.2.2) n (C, x4, x5) = some o → (∀ (Dy : wg_C) (y4 : Int32) (y5 : Int32), o = (Dy, y4, y5) → G_X8_fittingShifts p l e s m args below meth c E ad S r0 D0 M 62 Dy M [(0, .ref (ad 0)), (1, .ref (ad p1)), (3, .int x3), (4, .int y4), (5, .int y5)] []) → G_X8_fittingShifts p l e s m args below meth c E ad S r0 D0 M 14 C M [(0, .ref (ad 0)), (1, .ref (ad p1)), (3, .int x3), (4, .int x4), (5, .int x5)] [] := by
  intro n
  induction n with
  | zero => exact fun _ _ _ o h => (lp_zero h).elim
  | succ n ih =>
    intro C x4 x5 o h K
    obtain ⟨o1, hb, h2⟩ := lp_some h
    replace hb : f_X8_fittingShifts_l14 N p1 p2  x3 C x4 x5 = some o1 := hb
    clear h
    have Kc : ∀ (Dy : wg_C) (y4 : Int32) (y5 : Int32), o1 = Sum.inl (Dy, y4, y5) → G_X8_fittingShifts p l e s m args below meth c E ad S r0 D0 M 14 Dy M [(0, .ref (ad 0)), (1, .ref (ad p1)), (3, .int x3), (4, .int y4), (5, .int y5)] [] := fun Dy y4 y5 e1 => by
      subst e1
      exact ih Dy y4 y5 o h2 K
    have Ke : ∀ (Dy : wg_C) (y4 : Int32) (y5 : Int32), o1 = Sum.inr ((Dy, y4, y5)) → G_X8_fittingShifts p l e s m args below meth c E ad S r0 D0 M 62 Dy M [(0, .ref (ad 0)), (1, .ref (ad p1)), (3, .int x3), (4, .int y4), (5, .int y5)] [] := fun Dy y4 y5 e1 => by
      subst e1
      exact K Dy y4 y5 (sm_inj (α := (wg_C × Int32 × Int32)) h2).symm
    clear ih K h2
    unfold f_X8_fittingShifts_l14 at hb
    have h := hb
    clear hb
    refine wg_iload X 4 dX8_fittingShifts_14 rfl ?_
    refine wg_bipush (v := 18) X dX8_fittingShifts_16 (by decide) ?_
    refine wg_icmp_gt X 62 dX8_fittingShifts_18 (by decide) (fun c3 => ?_) (fun c3 => ?_)
    · have h := if_t c3 h
      exact Ke C x4 x5 (sm_inj h).symm
    · have h := if_f c3 h
      refine wg_aload_n X 0 dX8_fittingShifts_21 rfl rfl ?_
      refine wg_getR (b := 40) X cl8 (SCi hS 0 8 rfl) 8 (by decide) dX8_fittingShifts_22 k_480 rfl (SCr hS 0 8 40 rfl) ?_
      refine wg_iload X 4 dX8_fittingShifts_25 rfl ?_
      refine wg_bipush (v := 9) X dX8_fittingShifts_27 (by decide) ?_
      refine wg_isub X dX8_fittingShifts_29 ?_
      obtain ⟨C4, e5, h⟩ := lt_some h
      refine wg_putCe X cl1 (SCi hS 40 1 rfl) 3 (by decide) dX8_fittingShifts_30 k_119 rfl rfl rfl rfl e5 ?_
      refine wg_aload_n X 0 dX8_fittingShifts_33 rfl rfl ?_
      refine wg_aload_n X 1 dX8_fittingShifts_34 rfl rfl ?_
      refine wg_aload_n X 0 dX8_fittingShifts_35 rfl rfl ?_
      refine wg_getR (b := 40) X cl8 (SCi hS 0 8 rfl) 8 (by decide) dX8_fittingShifts_36 k_480 rfl (SCr hS 0 8 40 rfl) ?_
      refine wg_iload_n X 2 dX8_fittingShifts_39 rfl rfl ?_
      obtain ⟨r7, h6, h⟩ := bd_some h
      refine wg_callVi (As := [.ref (ad p1), .ref (ad 40), .int x3]) (rest := []) X (c_X8_firstOther l E ad S hS N C4 M p1 40 x3 hp1 (SCi hS 40 1 rfl) h6) T_yX8_firstOther k_718 cl8 (SCi hS 0 8 rfl) dX8_fittingShifts_40 rfl rfl (Nat.le_of_ble_eq_true rfl) ⟨Nat.le_of_ble_eq_true rfl, Nat.le_of_ble_eq_true rfl⟩ ⟨Nat.zero_le _, Nat.zero_le _⟩ ?_
      refine wg_iconst (v := -1) X dX8_fittingShifts_43 (by decide) ?_
      refine wg_icmp_ne X 56 dX8_fittingShifts_44 (by decide) (fun c8 => ?_) (fun c8 => ?_)
      · have h := if_f c8 h
        obtain ⟨v9, e10, h⟩ := lt_some h
        refine wg_iinc (lv' := [(5, .int v9), (0, .ref (ad 0)), (1, .ref (ad p1)), (3, .int x3), (4, .int x4)]) X 4 dX8_fittingShifts_56 rfl e10 (by decide) rfl ?_
        refine wg_goto X 14 dX8_fittingShifts_59 (by decide) ?_
        refine wg_pick [1, 2, 3, 4, 0] (lv' := [(0, .ref (ad 0)), (1, .ref (ad p1)), (3, .int x3), (4, .int x4), (5, .int v9)]) rfl ?_
        exact Kc C4 x4 v9 (sm_inj h).symm
      · have h := if_t c8 h
        refine wg_iload X 3 dX8_fittingShifts_47 rfl ?_
        refine wg_iconst (v := 1) X dX8_fittingShifts_49 (by decide) ?_
        refine wg_iload X 4 dX8_fittingShifts_50 rfl ?_
        refine wg_ishl X dX8_fittingShifts_52 ?_
        refine wg_ior X dX8_fittingShifts_53 ?_
        obtain ⟨v11, e12, h⟩ := lt_some h
        refine wg_istore (lv' := [(4, .int v11), (0, .ref (ad 0)), (1, .ref (ad p1)), (3, .int x3), (5, .int x5)]) X dX8_fittingShifts_54 e12 (by decide) rfl ?_
        obtain ⟨v13, e14, h⟩ := lt_some h
        refine wg_iinc (lv' := [(5, .int v13), (4, .int v11), (0, .ref (ad 0)), (1, .ref (ad p1)), (3, .int x3)]) X 4 dX8_fittingShifts_56 rfl e14 (by decide) rfl ?_
        refine wg_goto X 14 dX8_fittingShifts_59 (by decide) ?_
        refine wg_pick [2, 3, 4, 1, 0] (lv' := [(0, .ref (ad 0)), (1, .ref (ad p1)), (3, .int x3), (4, .int v11), (5, .int v13)]) rfl ?_
        exact Kc C4 v11 v13 (sm_inj h).symm
set_option maxHeartbeats 4000000 in
set_option maxRecDepth 100000 in
theorem c_X8_fittingShifts (l : Launch) (E : wg_Ev) (ad : Nat → Nat) (S : wg_Sh) (hS : wg_SC S) (N : Nat) (C : wg_C) (M : wg_M) (p1 : Nat) (p2 : Nat) (p3 : Int32) (hp1 : wg_Sht S p1) (hp2 : wg_id S p2 1) {r0 : Int32} {D0 : wg_C} (h : f_X8_fittingShifts N C p1 p2 p3 = some (r0, D0)) : wg_Ci l yX8_fittingShifts cX8_fittingShifts 6 (some .int) 4 90 E ad S C M [.ref (ad 0), .ref (ad p1), .ref (ad p2), .int p3] r0 D0 M := by
  refine wg_start (own := RX8) (by decide +kernel) rfl (Nat.le_of_ble_eq_true rfl) ?_
  intro p e s m below meth c X hr hnm
  refine wg_lv (lv' := [(0, .ref (ad 0)), (1, .ref (ad p1)), (2, .ref (ad p2)), (3, .int p3)]) rfl ?_
  unfold f_X8_fittingShifts at h
  refine wg_iconst (v := 0) X dX8_fittingShifts_0 (by decide) ?_
  refine wg_istore (lv' := [(4, .int (0 : Int32)), (0, .ref (ad 0)), (1, .ref (ad p1)), (2, .ref (ad p2)), (3, .int p3)]) X dX8_fittingShifts_1 rfl (by decide) rfl ?_
  refine wg_aload_n X 1 dX8_fittingShifts_3 rfl rfl ?_
  refine wg_getR (b := 40) X cl8 (SCi hS 0 8 rfl) 8 (by decide) dX8_fittingShifts_4 k_480 rfl (SCr hS 0 8 40 rfl) ?_
  refine wg_aload_n X 3 dX8_fittingShifts_7 rfl rfl ?_
  obtain ⟨C2, h1, h⟩ := bd_some h
  refine wg_callVv (As := [.ref (ad p2)]) (rest := []) X (c_X1_become l E ad S hS C M 40 p2 (SCi hS 40 1 rfl) hp2 h1) T_yX1_become k_733 cl1 (SCi hS 40 1 rfl) dX8_fittingShifts_8 rfl rfl (Nat.le_of_ble_eq_true rfl) ⟨Nat.le_of_ble_eq_true rfl, Nat.le_of_ble_eq_true rfl⟩ ⟨Nat.zero_le _, Nat.zero_le _⟩ ?_
  refine wg_iconst (v := 0) X dX8_fittingShifts_11 (by decide) ?_
  refine wg_istore (lv' := [(5, .int (0 : Int32)), (4, .int (0 : Int32)), (0, .ref (ad 0)), (1, .ref (ad p1)), (2, .ref (ad p2)), (3, .int p3)]) X dX8_fittingShifts_12 rfl (by decide) rfl ?_
  obtain ⟨o18, h19, h⟩ := bd3_o h
  refine wg_pick [2, 3, 5, 1, 0] (lv' := [(0, .ref (ad 0)), (1, .ref (ad p1)), (3, .int p3), (4, .int (0 : Int32)), (5, .int (0 : Int32))]) rfl ?_
  refine L_X8_fittingShifts_l14 X hr hS r0 D0 M N p1 hp1 p2 hp2  p3  N C2 (0 : Int32) (0 : Int32) o18 h19 (fun C15 v16 v17 e21 => ?_)
  · subst e21
    replace h := bd3_in h
    refine wg_iload X 3 dX8_fittingShifts_62 rfl ?_
    exact wg_iret X ⟨(Prod.mk.inj (sm_inj h)).1, (Prod.mk.inj (sm_inj h)).2, rfl⟩ hr dX8_fittingShifts_64
-- WindowsGive.seen(IIII)I (('c', 0), 'i', 'i', 'i', 'i')
def f_X8_seen (N : Nat) (C : wg_C) (p1 : Int32) (p2 : Int32) (p3 : Int32) (p4 : Int32) : Option (Int32 × wg_C) :=
  bd (f_X8_refusalOfLook C p1 p2 p3 p4 (2 : Int32)) fun r2 =>
  if r2 = 0 then (
    ck (inb p1 4) <|
    ck (inb p2 8) <|
    if p4 = 0 then (
      bd (f_X8_firstOther N C (44 + 2 * p1.toNatClampNeg) (4 + p2.toNatClampNeg) p3) fun r15 =>
      some (r15, C))
    else (
      if p4 = (1 : Int32) then (
        bd2 (f_X8_fittingShifts N C (44 + 2 * p1.toNatClampNeg) (4 + p2.toNatClampNeg) p3) fun r12 C13 =>
        some (r12, C13))
      else (
        bd2 (f_X8_fittingKinds N C (44 + 2 * p1.toNatClampNeg) (4 + p2.toNatClampNeg) p3) fun r9 C10 =>
        some (r9, C10))))
  else (
    some (r2, C))
set_option maxHeartbeats 4000000 in
set_option maxRecDepth 100000 in
theorem c_X8_seen (l : Launch) (E : wg_Ev) (ad : Nat → Nat) (S : wg_Sh) (hS : wg_SC S) (N : Nat) (C : wg_C) (M : wg_M) (p1 : Int32) (p2 : Int32) (p3 : Int32) (p4 : Int32)  {r0 : Int32} {D0 : wg_C} (h : f_X8_seen N C p1 p2 p3 p4 = some (r0, D0)) : wg_Ci l yX8_seen cX8_seen 8 (some .int) 5 115 E ad S C M [.ref (ad 0), .int p1, .int p2, .int p3, .int p4] r0 D0 M := by
  refine wg_start (own := RX8) (by decide +kernel) rfl (Nat.le_of_ble_eq_true rfl) ?_
  intro p e s m below meth c X hr hnm
  refine wg_lv (lv' := [(0, .ref (ad 0)), (1, .int p1), (2, .int p2), (3, .int p3), (4, .int p4)]) rfl ?_
  unfold f_X8_seen at h
  refine wg_aload_n X 0 dX8_seen_0 rfl rfl ?_
  refine wg_iload_n X 1 dX8_seen_1 rfl rfl ?_
  refine wg_iload_n X 2 dX8_seen_2 rfl rfl ?_
  refine wg_iload_n X 3 dX8_seen_3 rfl rfl ?_
  refine wg_iload X 4 dX8_seen_4 rfl ?_
  refine wg_iconst (v := 2) X dX8_seen_6 (by decide) ?_
  obtain ⟨r2, h1, h⟩ := bd_some h
  refine wg_callVi (As := [.int p1, .int p2, .int p3, .int p4, .int (2 : Int32)]) (rest := []) X (c_X8_refusalOfLook l E ad S hS C M p1 p2 p3 p4 (2 : Int32)  h1) T_yX8_refusalOfLook k_707 cl8 (SCi hS 0 8 rfl) dX8_seen_7 rfl rfl (Nat.le_of_ble_eq_true rfl) ⟨Nat.le_of_ble_eq_true rfl, Nat.le_of_ble_eq_true rfl⟩ ⟨Nat.zero_le _, Nat.zero_le _⟩ ?_
  refine wg_istore (lv' := [(5, .int r2), (0, .ref (ad 0)), (1, .int p1), (2, .int p2), (3, .int p3), (4, .int p4)]) X dX8_seen_10 rfl (by decide) rfl ?_
  refine wg_iload X 0 dX8_seen_12 rfl ?_
  refine wg_if_eq X 20 dX8_seen_14 (by decide) (fun c3 => ?_) (fun c3 => ?_)
  · have h := if_t c3 h
    refine wg_aload_n X 1 dX8_seen_20 rfl rfl ?_
    refine wg_getR (b := 39) X cl8 (SCi hS 0 8 rfl) 7 (by decide) dX8_seen_21 k_479 rfl (SCr hS 0 7 39 rfl) ?_
    refine wg_iload_n X 2 dX8_seen_24 rfl rfl ?_
    obtain ⟨z4, h⟩ := ck_some h
    refine wg_aalS14 (b := 44 + 2 * p1.toNatClampNeg) X (SCi hS 39 14 rfl) (SCl hS 39 4 rfl) z4 (SCs hS (inb_lt z4)).1 dX8_seen_25 ?_
    refine wg_astore (lv' := [(6, .ref (ad (44 + 2 * p1.toNatClampNeg))), (5, .int r2), (0, .ref (ad 0)), (1, .int p1), (2, .int p2), (3, .int p3), (4, .int p4)]) X dX8_seen_26 rfl (by decide) rfl ?_
    refine wg_aload_n X 2 dX8_seen_28 rfl rfl ?_
    refine wg_getR (b := 1) X cl8 (SCi hS 0 8 rfl) 0 (by decide) dX8_seen_29 k_472 rfl (SCr hS 0 0 1 rfl) ?_
    refine wg_getR (b := 3) X cl0 (SCi hS 1 0 rfl) 1 (by decide) dX8_seen_32 k_144 rfl (SCr hS 1 1 3 rfl) ?_
    refine wg_iload_n X 4 dX8_seen_35 rfl rfl ?_
    obtain ⟨z5, h⟩ := ck_some h
    refine wg_aalS13 (b := 4 + p2.toNatClampNeg) X (SCi hS 3 13 rfl) (SCl hS 3 8 rfl) z5 (SCp hS (inb_lt z5)).1 dX8_seen_36 ?_
    refine wg_astore (lv' := [(7, .ref (ad (4 + p2.toNatClampNeg))), (6, .ref (ad (44 + 2 * p1.toNatClampNeg))), (5, .int r2), (0, .ref (ad 0)), (1, .int p1), (2, .int p2), (3, .int p3), (4, .int p4)]) X dX8_seen_37 rfl (by decide) rfl ?_
    refine wg_iload X 7 dX8_seen_39 rfl ?_
    refine wg_if_ne X 54 dX8_seen_41 (by decide) (fun c6 => ?_) (fun c6 => ?_)
    · have h := if_f c6 h
      refine wg_iload X 7 dX8_seen_54 rfl ?_
      refine wg_iconst (v := 1) X dX8_seen_56 (by decide) ?_
      refine wg_icmp_ne X 72 dX8_seen_57 (by decide) (fun c7 => ?_) (fun c7 => ?_)
      · have h := if_f c7 h
        refine wg_aload_n X 3 dX8_seen_72 rfl rfl ?_
        refine wg_aload X 1 dX8_seen_73 rfl ?_
        refine wg_aload X 0 dX8_seen_75 rfl ?_
        refine wg_iload_n X 6 dX8_seen_77 rfl rfl ?_
        obtain ⟨r9, C10, h8, h⟩ := bd2_some h
        refine wg_callVi (As := [.ref (ad (44 + 2 * p1.toNatClampNeg)), .ref (ad (4 + p2.toNatClampNeg)), .int p3]) (rest := []) X (c_X8_fittingKinds l E ad S hS N C M (44 + 2 * p1.toNatClampNeg) (4 + p2.toNatClampNeg) p3 ((SCs hS (inb_lt z4)).2) ((SCp hS (inb_lt z5)).2.1) h8) T_yX8_fittingKinds k_737 cl8 (SCi hS 0 8 rfl) dX8_seen_78 rfl rfl (Nat.le_of_ble_eq_true rfl) ⟨Nat.le_of_ble_eq_true rfl, Nat.le_of_ble_eq_true rfl⟩ ⟨Nat.zero_le _, Nat.zero_le _⟩ ?_
        exact wg_iret X ⟨(Prod.mk.inj (sm_inj h)).1, (Prod.mk.inj (sm_inj h)).2, rfl⟩ hr dX8_seen_81
      · have h := if_t c7 h
        refine wg_aload_n X 3 dX8_seen_60 rfl rfl ?_
        refine wg_aload X 1 dX8_seen_61 rfl ?_
        refine wg_aload X 0 dX8_seen_63 rfl ?_
        refine wg_iload_n X 6 dX8_seen_65 rfl rfl ?_
        obtain ⟨r12, C13, h11, h⟩ := bd2_some h
        refine wg_callVi (As := [.ref (ad (44 + 2 * p1.toNatClampNeg)), .ref (ad (4 + p2.toNatClampNeg)), .int p3]) (rest := []) X (c_X8_fittingShifts l E ad S hS N C M (44 + 2 * p1.toNatClampNeg) (4 + p2.toNatClampNeg) p3 ((SCs hS (inb_lt z4)).2) ((SCp hS (inb_lt z5)).2.1) h11) T_yX8_fittingShifts k_729 cl8 (SCi hS 0 8 rfl) dX8_seen_66 rfl rfl (Nat.le_of_ble_eq_true rfl) ⟨Nat.le_of_ble_eq_true rfl, Nat.le_of_ble_eq_true rfl⟩ ⟨Nat.zero_le _, Nat.zero_le _⟩ ?_
        refine wg_goto X 81 dX8_seen_69 (by decide) ?_
        exact wg_iret X ⟨(Prod.mk.inj (sm_inj h)).1, (Prod.mk.inj (sm_inj h)).2, rfl⟩ hr dX8_seen_81
    · have h := if_t c6 h
      refine wg_aload_n X 3 dX8_seen_44 rfl rfl ?_
      refine wg_aload X 1 dX8_seen_45 rfl ?_
      refine wg_aload X 0 dX8_seen_47 rfl ?_
      refine wg_iload_n X 6 dX8_seen_49 rfl rfl ?_
      obtain ⟨r15, h14, h⟩ := bd_some h
      refine wg_callVi (As := [.ref (ad (44 + 2 * p1.toNatClampNeg)), .ref (ad (4 + p2.toNatClampNeg)), .int p3]) (rest := []) X (c_X8_firstOther l E ad S hS N C M (44 + 2 * p1.toNatClampNeg) (4 + p2.toNatClampNeg) p3 ((SCs hS (inb_lt z4)).2) ((SCp hS (inb_lt z5)).2.1) h14) T_yX8_firstOther k_718 cl8 (SCi hS 0 8 rfl) dX8_seen_50 rfl rfl (Nat.le_of_ble_eq_true rfl) ⟨Nat.le_of_ble_eq_true rfl, Nat.le_of_ble_eq_true rfl⟩ ⟨Nat.zero_le _, Nat.zero_le _⟩ ?_
      exact wg_iret X ⟨(Prod.mk.inj (sm_inj h)).1, (Prod.mk.inj (sm_inj h)).2, rfl⟩ hr dX8_seen_53
  · have h := if_f c3 h
    refine wg_iload X 0 dX8_seen_17 rfl ?_
    exact wg_iret X ⟨(Prod.mk.inj (sm_inj h)).1, (Prod.mk.inj (sm_inj h)).2, rfl⟩ hr dX8_seen_19
-- WindowsGive.unlikeShown(LWindowsGive$Pane;II)I (('c', 0), 'P', 'i', 'i')
def f_X8_unlikeShown_l14 (N : Nat) (p1 : Nat)  (x2 : Int32) (x3 : Int32) (C : wg_C) (x4 : Int32) (x5 : Int32) : Option ((wg_C × Int32 × Int32) ⊕ (wg_C × Int32 × Int32)) :=
  if (18 : Int32) < x5 then (
    some (.inr (C, x4, x5)))
  else (
    if ((x2 >>> (x5 &&& 31)) &&& (1 : Int32)) = (1 : Int32) then (
      lt_ (wg_up C 40 3 (x5 - (9 : Int32))) fun C7 =>
      bd (f_X0_shows C7 40 x3) fun r10 =>
      lt_ (x4 ||| ((1 : Int32) <<< ((r10 + (1 : Int32)) &&& 31))) fun v11 =>
      lt_ (x5 + (1 : Int32)) fun v13 =>
      some (.inl (C7, v11, v13)))
    else (
      lt_ (x5 + (1 : Int32)) fun v5 =>
      some (.inl (C, x4, v5))))
def f_X8_unlikeShown (N : Nat) (C : wg_C) (p1 : Nat) (p2 : Int32) (p3 : Int32) : Option (Int32 × wg_C) :=
  bd (f_X1_become C 40 p1) fun C2 =>
  bd3 (lp (fun o => f_X8_unlikeShown_l14 N p1  p2 p3 o.1 o.2.1 o.2.2) N (C2, (0 : Int32), (0 : Int32))) fun C15 v16 v17 =>
  bd (f_J6_bitCount_0f7a4 v16) fun r23 =>
  some (r23, C15)
abbrev G_X8_unlikeShown (p : Program) (l : Launch) (e : Env) (s : State) (m : MethodId) (args : Array Value) (below : List Frame) (meth : Method) (c : Code) (E : wg_Ev) (ad : Nat → Nat) (S : wg_Sh) (r0 : Int32) (C0 : wg_C) (M0 : wg_M) (pc : Nat) (C : wg_C) (M : wg_M) (lv : List (Nat × Value)) (st : List Value) : Prop := wg_G p l e (wg_Rm 3 66) s m args below meth c (MQ below (wg_Qi E ad S r0 C0 M0) args s 0 0 (wg_A E)) 6 E ad S 0 0 pc C M lv st
set_option maxHeartbeats 4000000 in
set_option maxRecDepth 100000 in
theorem L_X8_unlikeShown_l14 {p : Program} {l : Launch} {e : Env} {s : State} {m : MethodId} {args : Array Value} {below : List Frame} {meth : Method} {c : Code} {E : wg_Ev} {ad : Nat → Nat} {S : wg_Sh} (X : wg_X p s m args meth c cX8_unlikeShown 6 RX8 E) (hr : meth.sig.returnType = (some .int)) (hS : wg_SC S) (r0 : Int32) (D0 : wg_C) (M : wg_M) (N : Nat) (p1 : Nat) (hp1 : wg_id S p1 1)  (x2 : Int32) (x3 : Int32)  : ∀ (n : Nat) (C : wg_C) (x4 : Int32) (x5 : Int32) (o : (wg_C × Int32 × Int32)), lp (fun o => f_X8_unlikeShown_l14 N p1  x2 x3 o.1 o.2.1 o.2.2) n (C, x4, x5) = some o → (∀ (Dy : wg_C) (y4 : Int32) (y5 : Int32), o = (Dy, y4, y5) → G_X8_unlikeShown p l e s m args below meth c E ad S r0 D0 M 70 Dy M [(0, .ref (ad 0)), (2, .int x2), (3, .int x3), (4, .int y4), (5, .int y5)] []) → G_X8_unlikeShown p l e s m args below meth c E ad S r0 D0 M 14 C M [(0, .ref (ad 0)), (2, .int x2), (3, .int x3), (4, .int x4), (5, .int x5)] [] := by
  intro n
  induction n with
  | zero => exact fun _ _ _ o h => (lp_zero h).elim
  | succ n ih =>
    intro C x4 x5 o h K
    obtain ⟨o1, hb, h2⟩ := lp_some h
    replace hb : f_X8_unlikeShown_l14 N p1  x2 x3 C x4 x5 = some o1 := hb
    clear h
    have Kc : ∀ (Dy : wg_C) (y4 : Int32) (y5 : Int32), o1 = Sum.inl (Dy, y4, y5) → G_X8_unlikeShown p l e s m args below meth c E ad S r0 D0 M 14 Dy M [(0, .ref (ad 0)), (2, .int x2), (3, .int x3), (4, .int y4), (5, .int y5)] [] := fun Dy y4 y5 e1 => by
      subst e1
      exact ih Dy y4 y5 o h2 K
    have Ke : ∀ (Dy : wg_C) (y4 : Int32) (y5 : Int32), o1 = Sum.inr ((Dy, y4, y5)) → G_X8_unlikeShown p l e s m args below meth c E ad S r0 D0 M 70 Dy M [(0, .ref (ad 0)), (2, .int x2), (3, .int x3), (4, .int y4), (5, .int y5)] [] := fun Dy y4 y5 e1 => by
      subst e1
      exact K Dy y4 y5 (sm_inj (α := (wg_C × Int32 × Int32)) h2).symm
    clear ih K h2
    unfold f_X8_unlikeShown_l14 at hb
    have h := hb
    clear hb
    refine wg_iload X 4 dX8_unlikeShown_14 rfl ?_
    refine wg_bipush (v := 18) X dX8_unlikeShown_16 (by decide) ?_
    refine wg_icmp_gt X 70 dX8_unlikeShown_18 (by decide) (fun c3 => ?_) (fun c3 => ?_)
    · have h := if_t c3 h
      exact Ke C x4 x5 (sm_inj h).symm
    · have h := if_f c3 h
      refine wg_iload_n X 1 dX8_unlikeShown_21 rfl rfl ?_
      refine wg_iload X 4 dX8_unlikeShown_22 rfl ?_
      refine wg_ishr X dX8_unlikeShown_24 ?_
      refine wg_iconst (v := 1) X dX8_unlikeShown_25 (by decide) ?_
      refine wg_iand X dX8_unlikeShown_26 ?_
      refine wg_iconst (v := 1) X dX8_unlikeShown_27 (by decide) ?_
      refine wg_icmp_ne X 64 dX8_unlikeShown_28 (by decide) (fun c4 => ?_) (fun c4 => ?_)
      · have h := if_f c4 h
        obtain ⟨v5, e6, h⟩ := lt_some h
        refine wg_iinc (lv' := [(5, .int v5), (0, .ref (ad 0)), (2, .int x2), (3, .int x3), (4, .int x4)]) X 4 dX8_unlikeShown_64 rfl e6 (by decide) rfl ?_
        refine wg_goto X 14 dX8_unlikeShown_67 (by decide) ?_
        refine wg_pick [1, 2, 3, 4, 0] (lv' := [(0, .ref (ad 0)), (2, .int x2), (3, .int x3), (4, .int x4), (5, .int v5)]) rfl ?_
        exact Kc C x4 v5 (sm_inj h).symm
      · have h := if_t c4 h
        refine wg_aload_n X 0 dX8_unlikeShown_31 rfl rfl ?_
        refine wg_getR (b := 40) X cl8 (SCi hS 0 8 rfl) 8 (by decide) dX8_unlikeShown_32 k_480 rfl (SCr hS 0 8 40 rfl) ?_
        refine wg_iload X 4 dX8_unlikeShown_35 rfl ?_
        refine wg_bipush (v := 9) X dX8_unlikeShown_37 (by decide) ?_
        refine wg_isub X dX8_unlikeShown_39 ?_
        obtain ⟨C7, e8, h⟩ := lt_some h
        refine wg_putCe X cl1 (SCi hS 40 1 rfl) 3 (by decide) dX8_unlikeShown_40 k_119 rfl rfl rfl rfl e8 ?_
        refine wg_iload X 3 dX8_unlikeShown_43 rfl ?_
        refine wg_iconst (v := 1) X dX8_unlikeShown_45 (by decide) ?_
        refine wg_aload_n X 0 dX8_unlikeShown_46 rfl rfl ?_
        refine wg_getR (b := 1) X cl8 (SCi hS 0 8 rfl) 0 (by decide) dX8_unlikeShown_47 k_472 rfl (SCr hS 0 0 1 rfl) ?_
        refine wg_aload_n X 0 dX8_unlikeShown_50 rfl rfl ?_
        refine wg_getR (b := 40) X cl8 (SCi hS 0 8 rfl) 8 (by decide) dX8_unlikeShown_51 k_480 rfl (SCr hS 0 8 40 rfl) ?_
        refine wg_iload_n X 2 dX8_unlikeShown_54 rfl rfl ?_
        obtain ⟨r10, h9, h⟩ := bd_some h
        refine wg_callVi (As := [.ref (ad 40), .int x3]) (rest := [.int (1 : Int32), .int x4]) X (c_X0_shows l E ad S hS C7 M 40 x3 (SCi hS 40 1 rfl) h9) T_yX0_shows k_722 cl0 (SCi hS 1 0 rfl) dX8_unlikeShown_55 rfl rfl (Nat.le_of_ble_eq_true rfl) ⟨Nat.le_of_ble_eq_true rfl, Nat.le_of_ble_eq_true rfl⟩ ⟨Nat.zero_le _, Nat.zero_le _⟩ ?_
        refine wg_iconst (v := 1) X dX8_unlikeShown_58 (by decide) ?_
        refine wg_iadd X dX8_unlikeShown_59 ?_
        refine wg_ishl X dX8_unlikeShown_60 ?_
        refine wg_ior X dX8_unlikeShown_61 ?_
        obtain ⟨v11, e12, h⟩ := lt_some h
        refine wg_istore (lv' := [(4, .int v11), (0, .ref (ad 0)), (2, .int x2), (3, .int x3), (5, .int x5)]) X dX8_unlikeShown_62 e12 (by decide) rfl ?_
        obtain ⟨v13, e14, h⟩ := lt_some h
        refine wg_iinc (lv' := [(5, .int v13), (4, .int v11), (0, .ref (ad 0)), (2, .int x2), (3, .int x3)]) X 4 dX8_unlikeShown_64 rfl e14 (by decide) rfl ?_
        refine wg_goto X 14 dX8_unlikeShown_67 (by decide) ?_
        refine wg_pick [2, 3, 4, 1, 0] (lv' := [(0, .ref (ad 0)), (2, .int x2), (3, .int x3), (4, .int v11), (5, .int v13)]) rfl ?_
        exact Kc C7 v11 v13 (sm_inj h).symm
set_option maxHeartbeats 4000000 in
set_option maxRecDepth 100000 in
theorem c_X8_unlikeShown (l : Launch) (E : wg_Ev) (ad : Nat → Nat) (S : wg_Sh) (hS : wg_SC S) (N : Nat) (C : wg_C) (M : wg_M) (p1 : Nat) (p2 : Int32) (p3 : Int32) (hp1 : wg_id S p1 1) {r0 : Int32} {D0 : wg_C} (h : f_X8_unlikeShown N C p1 p2 p3 = some (r0, D0)) : wg_Ci l yX8_unlikeShown cX8_unlikeShown 6 (some .int) 3 66 E ad S C M [.ref (ad 0), .ref (ad p1), .int p2, .int p3] r0 D0 M := by
  refine wg_start (own := RX8) (by decide +kernel) rfl (Nat.le_of_ble_eq_true rfl) ?_
  intro p e s m below meth c X hr hnm
  refine wg_lv (lv' := [(0, .ref (ad 0)), (1, .ref (ad p1)), (2, .int p2), (3, .int p3)]) rfl ?_
  unfold f_X8_unlikeShown at h
  refine wg_iconst (v := 0) X dX8_unlikeShown_0 (by decide) ?_
  refine wg_istore (lv' := [(4, .int (0 : Int32)), (0, .ref (ad 0)), (1, .ref (ad p1)), (2, .int p2), (3, .int p3)]) X dX8_unlikeShown_1 rfl (by decide) rfl ?_
  refine wg_aload_n X 1 dX8_unlikeShown_3 rfl rfl ?_
  refine wg_getR (b := 40) X cl8 (SCi hS 0 8 rfl) 8 (by decide) dX8_unlikeShown_4 k_480 rfl (SCr hS 0 8 40 rfl) ?_
  refine wg_aload_n X 2 dX8_unlikeShown_7 rfl rfl ?_
  obtain ⟨C2, h1, h⟩ := bd_some h
  refine wg_callVv (As := [.ref (ad p1)]) (rest := []) X (c_X1_become l E ad S hS C M 40 p1 (SCi hS 40 1 rfl) hp1 h1) T_yX1_become k_733 cl1 (SCi hS 40 1 rfl) dX8_unlikeShown_8 rfl rfl (Nat.le_of_ble_eq_true rfl) ⟨Nat.le_of_ble_eq_true rfl, Nat.le_of_ble_eq_true rfl⟩ ⟨Nat.zero_le _, Nat.zero_le _⟩ ?_
  refine wg_iconst (v := 0) X dX8_unlikeShown_11 (by decide) ?_
  refine wg_istore (lv' := [(5, .int (0 : Int32)), (4, .int (0 : Int32)), (0, .ref (ad 0)), (1, .ref (ad p1)), (2, .int p2), (3, .int p3)]) X dX8_unlikeShown_12 rfl (by decide) rfl ?_
  obtain ⟨o18, h19, h⟩ := bd3_o h
  refine wg_pick [2, 4, 5, 1, 0] (lv' := [(0, .ref (ad 0)), (2, .int p2), (3, .int p3), (4, .int (0 : Int32)), (5, .int (0 : Int32))]) rfl ?_
  refine L_X8_unlikeShown_l14 X hr hS r0 D0 M N p1 hp1  p2 p3  N C2 (0 : Int32) (0 : Int32) o18 h19 (fun C15 v16 v17 e21 => ?_)
  · subst e21
    replace h := bd3_in h
    refine wg_iload X 3 dX8_unlikeShown_70 rfl ?_
    obtain ⟨r23, h22, h⟩ := bd_some h
    refine wg_callSi (As := [.int v16]) (rest := []) X (c_J6_bitCount_0f7a4 l E ad S C15 M v16  h22) T_yJ6_bitCount_0f7a4 k_693 dX8_unlikeShown_72 rfl rfl (Nat.le_of_ble_eq_true rfl) ⟨Nat.le_of_ble_eq_true rfl, Nat.le_of_ble_eq_true rfl⟩ ⟨Nat.zero_le _, Nat.zero_le _⟩ ?_
    exact wg_iret X ⟨(Prod.mk.inj (sm_inj h)).1, (Prod.mk.inj (sm_inj h)).2, rfl⟩ hr dX8_unlikeShown_75
-- WindowsGive.lookNext(IIII)I (('c', 0), 'i', 'i', 'i', 'i')
def f_X8_lookNext_l55 (N : Nat)  (x4 : Int32) (x6 : Nat) (x7 : Int32) (C : wg_C) (x8 : Int32) (x9 : Int32) (x10 : Int32) : Option ((wg_C × Int32 × Int32 × Int32) ⊕ (wg_C × Int32 × Int32 × Int32)) :=
  if (32 : Int32) ≤ x10 then (
    some (.inr (C, x8, x9, x10)))
  else (
    bd2 (f_X8_unlikeShown N C x6 x7 x10) fun r11 C12 =>
    if r11 ≤ x9 then (
      lt_ (x10 + (1 : Int32)) fun v14 =>
      some (.inl (C12, x8, x9, v14)))
    else (
      lt_ (x10 + (1 : Int32)) fun v16 =>
      some (.inl (C12, x10, r11, v16))))
def f_X8_lookNext (N : Nat) (C : wg_C) (p1 : Int32) (p2 : Int32) (p3 : Int32) (p4 : Int32) : Option (Int32 × wg_C) :=
  bd (f_X8_refusalOfLook C p1 p2 p3 p4 (1 : Int32)) fun r2 =>
  if r2 = 0 then (
    ck (inb p2 8) <|
    ck (inb p1 4) <|
    bd2 (f_X8_fittingShifts N C (44 + 2 * p1.toNatClampNeg) (4 + p2.toNatClampNeg) p3) fun r7 C8 =>
    bd4 (lp (fun o => f_X8_lookNext_l55 N  p4 (4 + p2.toNatClampNeg) r7 o.1 o.2.1 o.2.2.1 o.2.2.2) N (C8, (0 : Int32), (0 : Int32), (0 : Int32))) fun C18 v19 v20 v21 =>
    if p4 = 0 then (
      some (v19, C18))
    else (
      some (v20, C18)))
  else (
    some (r2, C))
abbrev G_X8_lookNext (p : Program) (l : Launch) (e : Env) (s : State) (m : MethodId) (args : Array Value) (below : List Frame) (meth : Method) (c : Code) (E : wg_Ev) (ad : Nat → Nat) (S : wg_Sh) (r0 : Int32) (C0 : wg_C) (M0 : wg_M) (pc : Nat) (C : wg_C) (M : wg_M) (lv : List (Nat × Value)) (st : List Value) : Prop := wg_G p l e (wg_Rm 5 115) s m args below meth c (MQ below (wg_Qi E ad S r0 C0 M0) args s 0 0 (wg_A E)) 12 E ad S 0 0 pc C M lv st
set_option maxHeartbeats 4000000 in
set_option maxRecDepth 100000 in
theorem L_X8_lookNext_l55 {p : Program} {l : Launch} {e : Env} {s : State} {m : MethodId} {args : Array Value} {below : List Frame} {meth : Method} {c : Code} {E : wg_Ev} {ad : Nat → Nat} {S : wg_Sh} (X : wg_X p s m args meth c cX8_lookNext 12 RX8 E) (hr : meth.sig.returnType = (some .int)) (hS : wg_SC S) (r0 : Int32) (D0 : wg_C) (M : wg_M) (N : Nat)   (x4 : Int32) (x6 : Nat) (x7 : Int32) (hx6 : wg_id S x6 1) : ∀ (n : Nat) (C : wg_C) (x8 : Int32) (x9 : Int32) (x10 : Int32) (o : (wg_C × Int32 × Int32 × Int32)), lp (fun o => f_X8_lookNext_l55 N  x4 x6 x7 o.1 o.2.1 o.2.2.1 o.2.2.2) n (C, x8, x9, x10) = some o → (∀ (Dy : wg_C) (y8 : Int32) (y9 : Int32) (y10 : Int32), o = (Dy, y8, y9, y10) → G_X8_lookNext p l e s m args below meth c E ad S r0 D0 M 95 Dy M [(0, .ref (ad 0)), (4, .int x4), (6, .ref (ad x6)), (7, .int x7), (8, .int y8), (9, .int y9), (10, .int y10)] []) → G_X8_lookNext p l e s m args below meth c E ad S r0 D0 M 55 C M [(0, .ref (ad 0)), (4, .int x4), (6, .ref (ad x6)), (7, .int x7), (8, .int x8), (9, .int x9), (10, .int x10)] [] := by
  intro n
  induction n with
  | zero => exact fun _ _ _ _ o h => (lp_zero h).elim
  | succ n ih =>
    intro C x8 x9 x10 o h K
    obtain ⟨o1, hb, h2⟩ := lp_some h
    replace hb : f_X8_lookNext_l55 N  x4 x6 x7 C x8 x9 x10 = some o1 := hb
    clear h
    have Kc : ∀ (Dy : wg_C) (y8 : Int32) (y9 : Int32) (y10 : Int32), o1 = Sum.inl (Dy, y8, y9, y10) → G_X8_lookNext p l e s m args below meth c E ad S r0 D0 M 55 Dy M [(0, .ref (ad 0)), (4, .int x4), (6, .ref (ad x6)), (7, .int x7), (8, .int y8), (9, .int y9), (10, .int y10)] [] := fun Dy y8 y9 y10 e1 => by
      subst e1
      exact ih Dy y8 y9 y10 o h2 K
    have Ke : ∀ (Dy : wg_C) (y8 : Int32) (y9 : Int32) (y10 : Int32), o1 = Sum.inr ((Dy, y8, y9, y10)) → G_X8_lookNext p l e s m args below meth c E ad S r0 D0 M 95 Dy M [(0, .ref (ad 0)), (4, .int x4), (6, .ref (ad x6)), (7, .int x7), (8, .int y8), (9, .int y9), (10, .int y10)] [] := fun Dy y8 y9 y10 e1 => by
      subst e1
      exact K Dy y8 y9 y10 (sm_inj (α := (wg_C × Int32 × Int32 × Int32)) h2).symm
    clear ih K h2
    unfold f_X8_lookNext_l55 at hb
    have h := hb
    clear hb
    refine wg_iload X 6 dX8_lookNext_55 rfl ?_
    refine wg_bipush (v := 32) X dX8_lookNext_57 (by decide) ?_
    refine wg_icmp_ge X 95 dX8_lookNext_59 (by decide) (fun c9 => ?_) (fun c9 => ?_)
    · have h := if_t c9 h
      exact Ke C x8 x9 x10 (sm_inj h).symm
    · have h := if_f c9 h
      refine wg_aload_n X 0 dX8_lookNext_62 rfl rfl ?_
      refine wg_aload X 2 dX8_lookNext_63 rfl ?_
      refine wg_iload X 3 dX8_lookNext_65 rfl ?_
      refine wg_iload X 6 dX8_lookNext_67 rfl ?_
      obtain ⟨r11, C12, h10, h⟩ := bd2_some h
      refine wg_callVi (As := [.ref (ad x6), .int x7, .int x10]) (rest := []) X (c_X8_unlikeShown l E ad S hS N C M x6 x7 x10 hx6 h10) T_yX8_unlikeShown k_745 cl8 (SCi hS 0 8 rfl) dX8_lookNext_69 rfl rfl (Nat.le_of_ble_eq_true rfl) ⟨Nat.le_of_ble_eq_true rfl, Nat.le_of_ble_eq_true rfl⟩ ⟨Nat.zero_le _, Nat.zero_le _⟩ ?_
      refine wg_istore (lv' := [(11, .int r11), (0, .ref (ad 0)), (4, .int x4), (6, .ref (ad x6)), (7, .int x7), (8, .int x8), (9, .int x9), (10, .int x10)]) X dX8_lookNext_72 rfl (by decide) rfl ?_
      refine wg_iload X 0 dX8_lookNext_74 rfl ?_
      refine wg_iload X 6 dX8_lookNext_76 rfl ?_
      refine wg_icmp_le X 89 dX8_lookNext_78 (by decide) (fun c13 => ?_) (fun c13 => ?_)
      · have h := if_t c13 h
        obtain ⟨v14, e15, h⟩ := lt_some h
        refine wg_iinc (lv' := [(10, .int v14), (11, .int r11), (0, .ref (ad 0)), (4, .int x4), (6, .ref (ad x6)), (7, .int x7), (8, .int x8), (9, .int x9)]) X 7 dX8_lookNext_89 rfl e15 (by decide) rfl ?_
        refine wg_goto X 55 dX8_lookNext_92 (by decide) ?_
        refine wg_pick [2, 3, 4, 5, 6, 7, 0] (lv' := [(0, .ref (ad 0)), (4, .int x4), (6, .ref (ad x6)), (7, .int x7), (8, .int x8), (9, .int x9), (10, .int v14)]) rfl ?_
        exact Kc C12 x8 x9 v14 (sm_inj h).symm
      · have h := if_f c13 h
        refine wg_iload X 0 dX8_lookNext_81 rfl ?_
        refine wg_istore (lv' := [(9, .int r11), (11, .int r11), (0, .ref (ad 0)), (4, .int x4), (6, .ref (ad x6)), (7, .int x7), (8, .int x8), (10, .int x10)]) X dX8_lookNext_83 rfl (by decide) rfl ?_
        refine wg_iload X 7 dX8_lookNext_85 rfl ?_
        refine wg_istore (lv' := [(8, .int x10), (9, .int r11), (11, .int r11), (0, .ref (ad 0)), (4, .int x4), (6, .ref (ad x6)), (7, .int x7), (10, .int x10)]) X dX8_lookNext_87 rfl (by decide) rfl ?_
        obtain ⟨v16, e17, h⟩ := lt_some h
        refine wg_iinc (lv' := [(10, .int v16), (8, .int x10), (9, .int r11), (11, .int r11), (0, .ref (ad 0)), (4, .int x4), (6, .ref (ad x6)), (7, .int x7)]) X 7 dX8_lookNext_89 rfl e17 (by decide) rfl ?_
        refine wg_goto X 55 dX8_lookNext_92 (by decide) ?_
        refine wg_pick [4, 5, 6, 7, 1, 2, 0] (lv' := [(0, .ref (ad 0)), (4, .int x4), (6, .ref (ad x6)), (7, .int x7), (8, .int x10), (9, .int r11), (10, .int v16)]) rfl ?_
        exact Kc C12 x10 r11 v16 (sm_inj h).symm
set_option maxHeartbeats 4000000 in
set_option maxRecDepth 100000 in
theorem c_X8_lookNext (l : Launch) (E : wg_Ev) (ad : Nat → Nat) (S : wg_Sh) (hS : wg_SC S) (N : Nat) (C : wg_C) (M : wg_M) (p1 : Int32) (p2 : Int32) (p3 : Int32) (p4 : Int32)  {r0 : Int32} {D0 : wg_C} (h : f_X8_lookNext N C p1 p2 p3 p4 = some (r0, D0)) : wg_Ci l yX8_lookNext cX8_lookNext 12 (some .int) 5 115 E ad S C M [.ref (ad 0), .int p1, .int p2, .int p3, .int p4] r0 D0 M := by
  refine wg_start (own := RX8) (by decide +kernel) rfl (Nat.le_of_ble_eq_true rfl) ?_
  intro p e s m below meth c X hr hnm
  refine wg_lv (lv' := [(0, .ref (ad 0)), (1, .int p1), (2, .int p2), (3, .int p3), (4, .int p4)]) rfl ?_
  unfold f_X8_lookNext at h
  refine wg_aload_n X 0 dX8_lookNext_0 rfl rfl ?_
  refine wg_iload_n X 1 dX8_lookNext_1 rfl rfl ?_
  refine wg_iload_n X 2 dX8_lookNext_2 rfl rfl ?_
  refine wg_iload_n X 3 dX8_lookNext_3 rfl rfl ?_
  refine wg_iload X 4 dX8_lookNext_4 rfl ?_
  refine wg_iconst (v := 1) X dX8_lookNext_6 (by decide) ?_
  obtain ⟨r2, h1, h⟩ := bd_some h
  refine wg_callVi (As := [.int p1, .int p2, .int p3, .int p4, .int (1 : Int32)]) (rest := []) X (c_X8_refusalOfLook l E ad S hS C M p1 p2 p3 p4 (1 : Int32)  h1) T_yX8_refusalOfLook k_707 cl8 (SCi hS 0 8 rfl) dX8_lookNext_7 rfl rfl (Nat.le_of_ble_eq_true rfl) ⟨Nat.le_of_ble_eq_true rfl, Nat.le_of_ble_eq_true rfl⟩ ⟨Nat.zero_le _, Nat.zero_le _⟩ ?_
  refine wg_istore (lv' := [(5, .int r2), (0, .ref (ad 0)), (1, .int p1), (2, .int p2), (3, .int p3), (4, .int p4)]) X dX8_lookNext_10 rfl (by decide) rfl ?_
  refine wg_iload X 0 dX8_lookNext_12 rfl ?_
  refine wg_if_eq X 20 dX8_lookNext_14 (by decide) (fun c3 => ?_) (fun c3 => ?_)
  · have h := if_t c3 h
    refine wg_aload_n X 1 dX8_lookNext_20 rfl rfl ?_
    refine wg_getR (b := 1) X cl8 (SCi hS 0 8 rfl) 0 (by decide) dX8_lookNext_21 k_472 rfl (SCr hS 0 0 1 rfl) ?_
    refine wg_getR (b := 3) X cl0 (SCi hS 1 0 rfl) 1 (by decide) dX8_lookNext_24 k_144 rfl (SCr hS 1 1 3 rfl) ?_
    refine wg_iload_n X 3 dX8_lookNext_27 rfl rfl ?_
    obtain ⟨z4, h⟩ := ck_some h
    refine wg_aalS13 (b := 4 + p2.toNatClampNeg) X (SCi hS 3 13 rfl) (SCl hS 3 8 rfl) z4 (SCp hS (inb_lt z4)).1 dX8_lookNext_28 ?_
    refine wg_astore (lv' := [(6, .ref (ad (4 + p2.toNatClampNeg))), (5, .int r2), (0, .ref (ad 0)), (1, .int p1), (2, .int p2), (3, .int p3), (4, .int p4)]) X dX8_lookNext_29 rfl (by decide) rfl ?_
    refine wg_aload_n X 2 dX8_lookNext_31 rfl rfl ?_
    refine wg_aload_n X 2 dX8_lookNext_32 rfl rfl ?_
    refine wg_getR (b := 39) X cl8 (SCi hS 0 8 rfl) 7 (by decide) dX8_lookNext_33 k_479 rfl (SCr hS 0 7 39 rfl) ?_
    refine wg_iload_n X 3 dX8_lookNext_36 rfl rfl ?_
    obtain ⟨z5, h⟩ := ck_some h
    refine wg_aalS14 (b := 44 + 2 * p1.toNatClampNeg) X (SCi hS 39 14 rfl) (SCl hS 39 4 rfl) z5 (SCs hS (inb_lt z5)).1 dX8_lookNext_37 ?_
    refine wg_aload X 0 dX8_lookNext_38 rfl ?_
    refine wg_iload_n X 5 dX8_lookNext_40 rfl rfl ?_
    obtain ⟨r7, C8, h6, h⟩ := bd2_some h
    refine wg_callVi (As := [.ref (ad (44 + 2 * p1.toNatClampNeg)), .ref (ad (4 + p2.toNatClampNeg)), .int p3]) (rest := []) X (c_X8_fittingShifts l E ad S hS N C M (44 + 2 * p1.toNatClampNeg) (4 + p2.toNatClampNeg) p3 ((SCs hS (inb_lt z5)).2) ((SCp hS (inb_lt z4)).2.1) h6) T_yX8_fittingShifts k_729 cl8 (SCi hS 0 8 rfl) dX8_lookNext_41 rfl rfl (Nat.le_of_ble_eq_true rfl) ⟨Nat.le_of_ble_eq_true rfl, Nat.le_of_ble_eq_true rfl⟩ ⟨Nat.zero_le _, Nat.zero_le _⟩ ?_
    refine wg_istore (lv' := [(7, .int r7), (6, .ref (ad (4 + p2.toNatClampNeg))), (5, .int r2), (0, .ref (ad 0)), (1, .int p1), (2, .int p2), (3, .int p3), (4, .int p4)]) X dX8_lookNext_44 rfl (by decide) rfl ?_
    refine wg_iconst (v := 0) X dX8_lookNext_46 (by decide) ?_
    refine wg_istore (lv' := [(8, .int (0 : Int32)), (7, .int r7), (6, .ref (ad (4 + p2.toNatClampNeg))), (5, .int r2), (0, .ref (ad 0)), (1, .int p1), (2, .int p2), (3, .int p3), (4, .int p4)]) X dX8_lookNext_47 rfl (by decide) rfl ?_
    refine wg_iconst (v := 0) X dX8_lookNext_49 (by decide) ?_
    refine wg_istore (lv' := [(9, .int (0 : Int32)), (8, .int (0 : Int32)), (7, .int r7), (6, .ref (ad (4 + p2.toNatClampNeg))), (5, .int r2), (0, .ref (ad 0)), (1, .int p1), (2, .int p2), (3, .int p3), (4, .int p4)]) X dX8_lookNext_50 rfl (by decide) rfl ?_
    refine wg_iconst (v := 0) X dX8_lookNext_52 (by decide) ?_
    refine wg_istore (lv' := [(10, .int (0 : Int32)), (9, .int (0 : Int32)), (8, .int (0 : Int32)), (7, .int r7), (6, .ref (ad (4 + p2.toNatClampNeg))), (5, .int r2), (0, .ref (ad 0)), (1, .int p1), (2, .int p2), (3, .int p3), (4, .int p4)]) X dX8_lookNext_53 rfl (by decide) rfl ?_
    obtain ⟨o22, h23, h⟩ := bd4_o h
    refine wg_pick [6, 10, 4, 3, 2, 1, 0] (lv' := [(0, .ref (ad 0)), (4, .int p4), (6, .ref (ad (4 + p2.toNatClampNeg))), (7, .int r7), (8, .int (0 : Int32)), (9, .int (0 : Int32)), (10, .int (0 : Int32))]) rfl ?_
    refine L_X8_lookNext_l55 X hr hS r0 D0 M N   p4 (4 + p2.toNatClampNeg) r7 ((SCp hS (inb_lt z4)).2.1) N C8 (0 : Int32) (0 : Int32) (0 : Int32) o22 h23 (fun C18 v19 v20 v21 e25 => ?_)
    · subst e25
      replace h := bd4_in h
      refine wg_iload X 1 dX8_lookNext_95 rfl ?_
      refine wg_if_ne X 105 dX8_lookNext_97 (by decide) (fun c26 => ?_) (fun c26 => ?_)
      · have h := if_f c26 h
        refine wg_iload X 5 dX8_lookNext_105 rfl ?_
        exact wg_iret X ⟨(Prod.mk.inj (sm_inj h)).1, (Prod.mk.inj (sm_inj h)).2, rfl⟩ hr dX8_lookNext_107
      · have h := if_t c26 h
        refine wg_iload X 4 dX8_lookNext_100 rfl ?_
        refine wg_goto X 107 dX8_lookNext_102 (by decide) ?_
        exact wg_iret X ⟨(Prod.mk.inj (sm_inj h)).1, (Prod.mk.inj (sm_inj h)).2, rfl⟩ hr dX8_lookNext_107
  · have h := if_f c3 h
    refine wg_iload X 0 dX8_lookNext_17 rfl ?_
    exact wg_iret X ⟨(Prod.mk.inj (sm_inj h)).1, (Prod.mk.inj (sm_inj h)).2, rfl⟩ hr dX8_lookNext_19
-- WindowsGive$Sheet.become(II)V ('SH', 'i', 'i')
def f_X4_become (N : Nat) (C : wg_C) (p0 : Nat) (p1 : Int32) (p2 : Int32) : Option wg_C :=
  bd (f_J7_fill_53178 N C (p0 + 1) 40 (0 : Int32)) fun C2 =>
  lt_ (wg_up C2 p0 1 p1) fun C3 =>
  lt_ (wg_up C3 p0 2 p2) fun C5 =>
  some C5
set_option maxHeartbeats 4000000 in
set_option maxRecDepth 100000 in
theorem c_X4_become (l : Launch) (E : wg_Ev) (ad : Nat → Nat) (S : wg_Sh) (hS : wg_SC S) (N : Nat) (C : wg_C) (M : wg_M) (p0 : Nat) (p1 : Int32) (p2 : Int32) (hp0 : wg_Sht S p0) {D0 : wg_C} (h : f_X4_become N C p0 p1 p2 = some D0) : wg_Cv l yX4_become cX4_become 3 none 1 23 E ad S C M [.ref (ad p0), .int p1, .int p2] D0 M := by
  refine wg_start (own := RX4) (by decide +kernel) rfl (Nat.le_of_ble_eq_true rfl) ?_
  intro p e s m below meth c X hr hnm
  refine wg_lv (lv' := [(0, .ref (ad p0)), (1, .int p1), (2, .int p2)]) rfl ?_
  unfold f_X4_become at h
  refine wg_aload_n X 0 dX4_become_0 rfl rfl ?_
  refine wg_getR (b := (p0 + 1)) X cl4 hp0.1 0 (by decide) dX4_become_1 k_269 rfl hp0.2.1 ?_
  refine wg_iconst (v := 0) X dX4_become_4 (by decide) ?_
  obtain ⟨C2, h1, h⟩ := bd_some h
  refine wg_callSv (As := [.ref (ad (p0 + 1)), .int (0 : Int32)]) (rest := []) X (c_J7_fill_53178 l E ad S hS N C M (p0 + 1) 40 (0 : Int32) ⟨hp0.2.2.1, hp0.2.2.2⟩ h1) T_yJ7_fill_53178 k_757 dX4_become_5 rfl rfl (Nat.le_of_ble_eq_true rfl) ⟨Nat.le_of_ble_eq_true rfl, Nat.le_of_ble_eq_true rfl⟩ ⟨Nat.zero_le _, Nat.zero_le _⟩ ?_
  refine wg_aload_n X 0 dX4_become_8 rfl rfl ?_
  refine wg_iload_n X 1 dX4_become_9 rfl rfl ?_
  obtain ⟨C3, e4, h⟩ := lt_some h
  refine wg_putCe X cl4 hp0.1 1 (by decide) dX4_become_10 k_271 rfl rfl rfl rfl e4 ?_
  refine wg_aload_n X 0 dX4_become_13 rfl rfl ?_
  refine wg_iload_n X 2 dX4_become_14 rfl rfl ?_
  obtain ⟨C5, e6, h⟩ := lt_some h
  refine wg_putCe X cl4 hp0.1 2 (by decide) dX4_become_15 k_273 rfl rfl rfl rfl e6 ?_
  exact wg_vret X ⟨(sm_inj h), rfl⟩ hr dX4_become_18
-- WindowsGive$Sheet.put(II)V ('SH', 'i', 'i')
def f_X4_put (C : wg_C) (p0 : Nat) (p1 : Int32) (p2 : Int32) : Option wg_C :=
  if (C p0 1) = 0 then (
    ck (inb p1 40) <|
    lt_ (wg_up C (p0 + 1) p1.toNatClampNeg p2.toInt8.toInt32) fun C10 =>
    some C10)
  else (
    if (C p0 1) = (1 : Int32) then (
      ck (inb p1 40) <|
      lt_ (wg_up C (p0 + 1) p1.toNatClampNeg p2.toInt16.toInt32) fun C7 =>
      some C7)
    else (
      ck (inb p1 40) <|
      lt_ (wg_up C (p0 + 1) p1.toNatClampNeg p2) fun C4 =>
      some C4))
set_option maxHeartbeats 4000000 in
set_option maxRecDepth 100000 in
theorem c_X4_put (l : Launch) (E : wg_Ev) (ad : Nat → Nat) (S : wg_Sh) (hS : wg_SC S) (C : wg_C) (M : wg_M) (p0 : Nat) (p1 : Int32) (p2 : Int32) (hp0 : wg_Sht S p0) {D0 : wg_C} (h : f_X4_put C p0 p1 p2 = some D0) : wg_Cv l yX4_put cX4_put 3 none 0 0 E ad S C M [.ref (ad p0), .int p1, .int p2] D0 M := by
  refine wg_start (own := RX4) (by decide +kernel) rfl (Nat.le_of_ble_eq_true rfl) ?_
  intro p e s m below meth c X hr hnm
  refine wg_lv (lv' := [(0, .ref (ad p0)), (1, .int p1), (2, .int p2)]) rfl ?_
  unfold f_X4_put at h
  refine wg_aload_n X 0 dX4_put_0 rfl rfl ?_
  refine wg_getC X cl4 hp0.1 1 (by decide) dX4_put_1 k_271 rfl ?_
  refine wg_if_ne X 18 dX4_put_4 (by decide) (fun c1 => ?_) (fun c1 => ?_)
  · have h := if_f c1 h
    refine wg_aload_n X 0 dX4_put_18 rfl rfl ?_
    refine wg_getR (b := (p0 + 1)) X cl4 hp0.1 0 (by decide) dX4_put_19 k_269 rfl hp0.2.1 ?_
    refine wg_iload_n X 1 dX4_put_22 rfl rfl ?_
    refine wg_aload_n X 0 dX4_put_23 rfl rfl ?_
    refine wg_getC X cl4 hp0.1 1 (by decide) dX4_put_24 k_271 rfl ?_
    refine wg_iconst (v := 1) X dX4_put_27 (by decide) ?_
    refine wg_icmp_ne X 36 dX4_put_28 (by decide) (fun c2 => ?_) (fun c2 => ?_)
    · have h := if_f c2 h
      refine wg_iload_n X 2 dX4_put_36 rfl rfl ?_
      obtain ⟨z3, h⟩ := ck_some h
      obtain ⟨C4, e5, h⟩ := lt_some h
      refine wg_iaste X hp0.2.2.1 hp0.2.2.2 z3 dX4_put_37 e5 ?_
      exact wg_vret X ⟨(sm_inj h), rfl⟩ hr dX4_put_38
    · have h := if_t c2 h
      refine wg_iload_n X 2 dX4_put_31 rfl rfl ?_
      refine wg_i2s X dX4_put_32 ?_
      refine wg_goto X 37 dX4_put_33 (by decide) ?_
      obtain ⟨z6, h⟩ := ck_some h
      obtain ⟨C7, e8, h⟩ := lt_some h
      refine wg_iaste X hp0.2.2.1 hp0.2.2.2 z6 dX4_put_37 e8 ?_
      exact wg_vret X ⟨(sm_inj h), rfl⟩ hr dX4_put_38
  · have h := if_t c1 h
    refine wg_aload_n X 0 dX4_put_7 rfl rfl ?_
    refine wg_getR (b := (p0 + 1)) X cl4 hp0.1 0 (by decide) dX4_put_8 k_269 rfl hp0.2.1 ?_
    refine wg_iload_n X 1 dX4_put_11 rfl rfl ?_
    refine wg_iload_n X 2 dX4_put_12 rfl rfl ?_
    refine wg_i2b X dX4_put_13 ?_
    obtain ⟨z9, h⟩ := ck_some h
    obtain ⟨C10, e11, h⟩ := lt_some h
    refine wg_iaste X hp0.2.2.1 hp0.2.2.2 z9 dX4_put_14 e11 ?_
    refine wg_goto X 38 dX4_put_15 (by decide) ?_
    exact wg_vret X ⟨(sm_inj h), rfl⟩ hr dX4_put_38
-- WindowsGive.film(IIII)I (('c', 0), 'i', 'i', 'i', 'i')
def f_X8_film_l59 (N : Nat)  (x2 : Int32) (x3 : Int32) (x4 : Int32) (x5 : Nat) (C : wg_C) (x6 : Int32) : Option ((wg_C × Int32) ⊕ (wg_C × Int32)) :=
  if x4 ≤ x6 then (
    some (.inr (C, x6)))
  else (
    ck (inb x2 8) <|
    bd (f_X0_shows C (4 + x2.toNatClampNeg) (x3 + x6)) fun r18 =>
    bd (f_X4_put C x5 x6 r18) fun C20 =>
    lt_ (x6 + (1 : Int32)) fun v21 =>
    some (.inl (C20, v21)))
def f_X8_film (N : Nat) (C : wg_C) (p1 : Int32) (p2 : Int32) (p3 : Int32) (p4 : Int32) : Option (Int32 × wg_C) :=
  bd (f_X8_isSheet p1) fun r2 =>
  if r2 = 0 then (
    some ((-2 : Int32), C))
  else (
    bd (f_X0_has C p2) fun r5 =>
    if r5 = 0 then (
      some ((-2 : Int32), C))
    else (
      bd (f_X8_isDay p3) fun r8 =>
      if r8 = 0 then (
        some ((-2 : Int32), C))
      else (
        if p4 < 0 then (
          some ((-2 : Int32), C))
        else (
          if p4 ≤ (10 : Int32) then (
            ck (inb p1 4) <|
            bd (f_X4_become N C (44 + 2 * p1.toNatClampNeg) (0 : Int32) p4) fun C14 =>
            bd2 (lp (fun o => f_X8_film_l59 N  p2 p3 p4 (44 + 2 * p1.toNatClampNeg) o.1 o.2) N (C14, (0 : Int32))) fun C23 v24 =>
            some (p4, C23))
          else (
            some ((-2 : Int32), C))))))
abbrev G_X8_film (p : Program) (l : Launch) (e : Env) (s : State) (m : MethodId) (args : Array Value) (below : List Frame) (meth : Method) (c : Code) (E : wg_Ev) (ad : Nat → Nat) (S : wg_Sh) (r0 : Int32) (C0 : wg_C) (M0 : wg_M) (pc : Nat) (C : wg_C) (M : wg_M) (lv : List (Nat × Value)) (st : List Value) : Prop := wg_G p l e (wg_Rm 3 66) s m args below meth c (MQ below (wg_Qi E ad S r0 C0 M0) args s 0 0 (wg_A E)) 7 E ad S 0 0 pc C M lv st
set_option maxHeartbeats 4000000 in
set_option maxRecDepth 100000 in
theorem L_X8_film_l59 {p : Program} {l : Launch} {e : Env} {s : State} {m : MethodId} {args : Array Value} {below : List Frame} {meth : Method} {c : Code} {E : wg_Ev} {ad : Nat → Nat} {S : wg_Sh} (X : wg_X p s m args meth c cX8_film 7 RX8 E) (hr : meth.sig.returnType = (some .int)) (hS : wg_SC S) (r0 : Int32) (D0 : wg_C) (M : wg_M) (N : Nat)   (x2 : Int32) (x3 : Int32) (x4 : Int32) (x5 : Nat) (hx5 : wg_Sht S x5) : ∀ (n : Nat) (C : wg_C) (x6 : Int32) (o : (wg_C × Int32)), lp (fun o => f_X8_film_l59 N  x2 x3 x4 x5 o.1 o.2) n (C, x6) = some o → (∀ (Dy : wg_C) (y6 : Int32), o = (Dy, y6) → G_X8_film p l e s m args below meth c E ad S r0 D0 M 99 Dy M [(0, .ref (ad 0)), (2, .int x2), (3, .int x3), (4, .int x4), (5, .ref (ad x5)), (6, .int y6)] []) → G_X8_film p l e s m args below meth c E ad S r0 D0 M 59 C M [(0, .ref (ad 0)), (2, .int x2), (3, .int x3), (4, .int x4), (5, .ref (ad x5)), (6, .int x6)] [] := by
  intro n
  induction n with
  | zero => exact fun _ _ o h => (lp_zero h).elim
  | succ n ih =>
    intro C x6 o h K
    obtain ⟨o1, hb, h2⟩ := lp_some h
    replace hb : f_X8_film_l59 N  x2 x3 x4 x5 C x6 = some o1 := hb
    clear h
    have Kc : ∀ (Dy : wg_C) (y6 : Int32), o1 = Sum.inl (Dy, y6) → G_X8_film p l e s m args below meth c E ad S r0 D0 M 59 Dy M [(0, .ref (ad 0)), (2, .int x2), (3, .int x3), (4, .int x4), (5, .ref (ad x5)), (6, .int y6)] [] := fun Dy y6 e1 => by
      subst e1
      exact ih Dy y6 o h2 K
    have Ke : ∀ (Dy : wg_C) (y6 : Int32), o1 = Sum.inr ((Dy, y6)) → G_X8_film p l e s m args below meth c E ad S r0 D0 M 99 Dy M [(0, .ref (ad 0)), (2, .int x2), (3, .int x3), (4, .int x4), (5, .ref (ad x5)), (6, .int y6)] [] := fun Dy y6 e1 => by
      subst e1
      exact K Dy y6 (sm_inj (α := (wg_C × Int32)) h2).symm
    clear ih K h2
    unfold f_X8_film_l59 at hb
    have h := hb
    clear hb
    refine wg_iload X 5 dX8_film_59 rfl ?_
    refine wg_iload X 3 dX8_film_61 rfl ?_
    refine wg_icmp_ge X 99 dX8_film_63 (by decide) (fun c15 => ?_) (fun c15 => ?_)
    · have h := if_t c15 h
      exact Ke C x6 (sm_inj h).symm
    · have h := if_f c15 h
      refine wg_aload X 4 dX8_film_66 rfl ?_
      refine wg_iload X 5 dX8_film_68 rfl ?_
      refine wg_aload_n X 0 dX8_film_70 rfl rfl ?_
      refine wg_getR (b := 1) X cl8 (SCi hS 0 8 rfl) 0 (by decide) dX8_film_71 k_472 rfl (SCr hS 0 0 1 rfl) ?_
      refine wg_aload_n X 0 dX8_film_74 rfl rfl ?_
      refine wg_getR (b := 1) X cl8 (SCi hS 0 8 rfl) 0 (by decide) dX8_film_75 k_472 rfl (SCr hS 0 0 1 rfl) ?_
      refine wg_getR (b := 3) X cl0 (SCi hS 1 0 rfl) 1 (by decide) dX8_film_78 k_144 rfl (SCr hS 1 1 3 rfl) ?_
      refine wg_iload_n X 1 dX8_film_81 rfl rfl ?_
      obtain ⟨z16, h⟩ := ck_some h
      refine wg_aalS13 (b := 4 + x2.toNatClampNeg) X (SCi hS 3 13 rfl) (SCl hS 3 8 rfl) z16 (SCp hS (inb_lt z16)).1 dX8_film_82 ?_
      refine wg_iload_n X 2 dX8_film_83 rfl rfl ?_
      refine wg_iload X 5 dX8_film_84 rfl ?_
      refine wg_iadd X dX8_film_86 ?_
      obtain ⟨r18, h17, h⟩ := bd_some h
      refine wg_callVi (As := [.ref (ad (4 + x2.toNatClampNeg)), .int (x3 + x6)]) (rest := [.int x6, .ref (ad x5)]) X (c_X0_shows l E ad S hS C M (4 + x2.toNatClampNeg) (x3 + x6) ((SCp hS (inb_lt z16)).2.1) h17) T_yX0_shows k_722 cl0 (SCi hS 1 0 rfl) dX8_film_87 rfl rfl (Nat.le_of_ble_eq_true rfl) ⟨Nat.le_of_ble_eq_true rfl, Nat.le_of_ble_eq_true rfl⟩ ⟨Nat.zero_le _, Nat.zero_le _⟩ ?_
      obtain ⟨C20, h19, h⟩ := bd_some h
      refine wg_callVv (As := [.int x6, .int r18]) (rest := []) X (c_X4_put l E ad S hS C M x5 x6 r18 hx5 h19) T_yX4_put k_758 cl4 hx5.1 dX8_film_90 rfl rfl (Nat.le_of_ble_eq_true rfl) ⟨Nat.le_of_ble_eq_true rfl, Nat.le_of_ble_eq_true rfl⟩ ⟨Nat.zero_le _, Nat.zero_le _⟩ ?_
      obtain ⟨v21, e22, h⟩ := lt_some h
      refine wg_iinc (lv' := [(6, .int v21), (0, .ref (ad 0)), (2, .int x2), (3, .int x3), (4, .int x4), (5, .ref (ad x5))]) X 5 dX8_film_93 rfl e22 (by decide) rfl ?_
      refine wg_goto X 59 dX8_film_96 (by decide) ?_
      refine wg_pick [1, 2, 3, 4, 5, 0] (lv' := [(0, .ref (ad 0)), (2, .int x2), (3, .int x3), (4, .int x4), (5, .ref (ad x5)), (6, .int v21)]) rfl ?_
      exact Kc C20 v21 (sm_inj h).symm
set_option maxHeartbeats 4000000 in
set_option maxRecDepth 100000 in
theorem c_X8_film (l : Launch) (E : wg_Ev) (ad : Nat → Nat) (S : wg_Sh) (hS : wg_SC S) (N : Nat) (C : wg_C) (M : wg_M) (p1 : Int32) (p2 : Int32) (p3 : Int32) (p4 : Int32)  {r0 : Int32} {D0 : wg_C} (h : f_X8_film N C p1 p2 p3 p4 = some (r0, D0)) : wg_Ci l yX8_film cX8_film 7 (some .int) 3 66 E ad S C M [.ref (ad 0), .int p1, .int p2, .int p3, .int p4] r0 D0 M := by
  refine wg_start (own := RX8) (by decide +kernel) rfl (Nat.le_of_ble_eq_true rfl) ?_
  intro p e s m below meth c X hr hnm
  refine wg_lv (lv' := [(0, .ref (ad 0)), (1, .int p1), (2, .int p2), (3, .int p3), (4, .int p4)]) rfl ?_
  unfold f_X8_film at h
  refine wg_iload_n X 1 dX8_film_0 rfl rfl ?_
  obtain ⟨r2, h1, h⟩ := bd_some h
  refine wg_callSi (As := [.int p1]) (rest := []) X (c_X8_isSheet l E ad S C M p1  h1) T_yX8_isSheet k_711 dX8_film_1 rfl rfl (Nat.le_of_ble_eq_true rfl) ⟨Nat.le_of_ble_eq_true rfl, Nat.le_of_ble_eq_true rfl⟩ ⟨Nat.zero_le _, Nat.zero_le _⟩ ?_
  refine wg_if_eq X 37 dX8_film_4 (by decide) (fun c3 => ?_) (fun c3 => ?_)
  · have h := if_t c3 h
    refine wg_bipush (v := -2) X dX8_film_37 (by decide) ?_
    exact wg_iret X ⟨(Prod.mk.inj (sm_inj h)).1, (Prod.mk.inj (sm_inj h)).2, rfl⟩ hr dX8_film_39
  · have h := if_f c3 h
    refine wg_aload_n X 0 dX8_film_7 rfl rfl ?_
    refine wg_getR (b := 1) X cl8 (SCi hS 0 8 rfl) 0 (by decide) dX8_film_8 k_472 rfl (SCr hS 0 0 1 rfl) ?_
    refine wg_iload_n X 2 dX8_film_11 rfl rfl ?_
    obtain ⟨r5, h4, h⟩ := bd_some h
    refine wg_callVi (As := [.int p2]) (rest := []) X (c_X0_has l E ad S hS C M p2  h4) T_yX0_has k_520 cl0 (SCi hS 1 0 rfl) dX8_film_12 rfl rfl (Nat.le_of_ble_eq_true rfl) ⟨Nat.le_of_ble_eq_true rfl, Nat.le_of_ble_eq_true rfl⟩ ⟨Nat.zero_le _, Nat.zero_le _⟩ ?_
    refine wg_if_eq X 37 dX8_film_15 (by decide) (fun c6 => ?_) (fun c6 => ?_)
    · have h := if_t c6 h
      refine wg_bipush (v := -2) X dX8_film_37 (by decide) ?_
      exact wg_iret X ⟨(Prod.mk.inj (sm_inj h)).1, (Prod.mk.inj (sm_inj h)).2, rfl⟩ hr dX8_film_39
    · have h := if_f c6 h
      refine wg_iload_n X 3 dX8_film_18 rfl rfl ?_
      obtain ⟨r8, h7, h⟩ := bd_some h
      refine wg_callSi (As := [.int p3]) (rest := []) X (c_X8_isDay l E ad S C M p3  h7) T_yX8_isDay k_517 dX8_film_19 rfl rfl (Nat.le_of_ble_eq_true rfl) ⟨Nat.le_of_ble_eq_true rfl, Nat.le_of_ble_eq_true rfl⟩ ⟨Nat.zero_le _, Nat.zero_le _⟩ ?_
      refine wg_if_eq X 37 dX8_film_22 (by decide) (fun c9 => ?_) (fun c9 => ?_)
      · have h := if_t c9 h
        refine wg_bipush (v := -2) X dX8_film_37 (by decide) ?_
        exact wg_iret X ⟨(Prod.mk.inj (sm_inj h)).1, (Prod.mk.inj (sm_inj h)).2, rfl⟩ hr dX8_film_39
      · have h := if_f c9 h
        refine wg_iload X 4 dX8_film_25 rfl ?_
        refine wg_if_lt X 37 dX8_film_27 (by decide) (fun c10 => ?_) (fun c10 => ?_)
        · have h := if_t c10 h
          refine wg_bipush (v := -2) X dX8_film_37 (by decide) ?_
          exact wg_iret X ⟨(Prod.mk.inj (sm_inj h)).1, (Prod.mk.inj (sm_inj h)).2, rfl⟩ hr dX8_film_39
        · have h := if_f c10 h
          refine wg_iload X 4 dX8_film_30 rfl ?_
          refine wg_bipush (v := 10) X dX8_film_32 (by decide) ?_
          refine wg_icmp_le X 40 dX8_film_34 (by decide) (fun c11 => ?_) (fun c11 => ?_)
          · have h := if_t c11 h
            refine wg_aload_n X 0 dX8_film_40 rfl rfl ?_
            refine wg_getR (b := 39) X cl8 (SCi hS 0 8 rfl) 7 (by decide) dX8_film_41 k_479 rfl (SCr hS 0 7 39 rfl) ?_
            refine wg_iload_n X 1 dX8_film_44 rfl rfl ?_
            obtain ⟨z12, h⟩ := ck_some h
            refine wg_aalS14 (b := 44 + 2 * p1.toNatClampNeg) X (SCi hS 39 14 rfl) (SCl hS 39 4 rfl) z12 (SCs hS (inb_lt z12)).1 dX8_film_45 ?_
            refine wg_astore (lv' := [(5, .ref (ad (44 + 2 * p1.toNatClampNeg))), (0, .ref (ad 0)), (1, .int p1), (2, .int p2), (3, .int p3), (4, .int p4)]) X dX8_film_46 rfl (by decide) rfl ?_
            refine wg_aload X 0 dX8_film_48 rfl ?_
            refine wg_iconst (v := 0) X dX8_film_50 (by decide) ?_
            refine wg_iload X 5 dX8_film_51 rfl ?_
            obtain ⟨C14, h13, h⟩ := bd_some h
            refine wg_callVv (As := [.int (0 : Int32), .int p4]) (rest := []) X (c_X4_become l E ad S hS N C M (44 + 2 * p1.toNatClampNeg) (0 : Int32) p4 ((SCs hS (inb_lt z12)).2) h13) T_yX4_become k_753 cl4 ((SCs hS (inb_lt z12)).2.1) dX8_film_53 rfl rfl (Nat.le_of_ble_eq_true rfl) ⟨Nat.le_of_ble_eq_true rfl, Nat.le_of_ble_eq_true rfl⟩ ⟨Nat.zero_le _, Nat.zero_le _⟩ ?_
            refine wg_iconst (v := 0) X dX8_film_56 (by decide) ?_
            refine wg_istore (lv' := [(6, .int (0 : Int32)), (5, .ref (ad (44 + 2 * p1.toNatClampNeg))), (0, .ref (ad 0)), (1, .int p1), (2, .int p2), (3, .int p3), (4, .int p4)]) X dX8_film_57 rfl (by decide) rfl ?_
            obtain ⟨o25, h26, h⟩ := bd2_o h
            refine wg_pick [2, 4, 5, 6, 1, 0] (lv' := [(0, .ref (ad 0)), (2, .int p2), (3, .int p3), (4, .int p4), (5, .ref (ad (44 + 2 * p1.toNatClampNeg))), (6, .int (0 : Int32))]) rfl ?_
            refine L_X8_film_l59 X hr hS r0 D0 M N   p2 p3 p4 (44 + 2 * p1.toNatClampNeg) ((SCs hS (inb_lt z12)).2) N C14 (0 : Int32) o25 h26 (fun C23 v24 e28 => ?_)
            · subst e28
              replace h := bd2_in h
              refine wg_iload X 3 dX8_film_99 rfl ?_
              exact wg_iret X ⟨(Prod.mk.inj (sm_inj h)).1, (Prod.mk.inj (sm_inj h)).2, rfl⟩ hr dX8_film_101
          · have h := if_f c11 h
            refine wg_bipush (v := -2) X dX8_film_37 (by decide) ?_
            exact wg_iret X ⟨(Prod.mk.inj (sm_inj h)).1, (Prod.mk.inj (sm_inj h)).2, rfl⟩ hr dX8_film_39
-- WindowsGive.flood(I[I)I (('c', 0), 'i', 'IA')
def f_X8_flood_l40 (N : Nat) (S : wg_Sh) (p2 n2 : Nat)  (x1 : Int32) (x4 : Int32) (x5 : Nat) (C : wg_C) (x3 : Int32) (x6 : Int32) : Option ((wg_C × Int32 × Int32) ⊕ (wg_C × Int32 × Int32)) :=
  if (32 : Int32) ≤ x6 then (
    some (.inr (C, x3, x6)))
  else (
    bd (f_X1_leads C x5) fun r7 =>
    if r7 = x1 then (
      bd (f_X1_passes C x5 x6 (2 : Int32)) fun r10 =>
      if r10 = 0 then (
        lt_ (x6 + (1 : Int32)) fun v12 =>
        some (.inl (C, x3, v12)))
      else (
        bd2 (f_X3_worth N S C (C 1 3) (1 : Int32) x5 x6 p2 n2) fun r15 C16 =>
        bd (f_X1_on C16 x5 x6) fun r18 =>
        ck (inb r18 32) <|
        ck (inb r18 32) <|
        lt_ (wg_up C16 41 r18.toNatClampNeg ((C16 41 r18.toNatClampNeg) + r15)) fun C21 =>
        lt_ (x3 + r15) fun v23 =>
        lt_ (x6 + (1 : Int32)) fun v25 =>
        some (.inl (C21, v23, v25))))
    else (
      some (.inr (C, x3, x6))))
def f_X8_flood_l13 (N : Nat) (S : wg_Sh) (p2 n2 : Nat)  (x1 : Int32) (C : wg_C) (x3 : Int32) (x4 : Int32) : Option ((wg_C × Int32 × Int32) ⊕ (wg_C × Int32 × Int32)) :=
  if (C 1 2) ≤ x4 then (
    some (.inr (C, x3, x4)))
  else (
    ck (inb x4 8) <|
    bd3 (lp (fun o => f_X8_flood_l40 N S p2 n2  x1 x4 (4 + x4.toNatClampNeg) o.1 o.2.1 o.2.2) N (C, x3, (0 : Int32))) fun C27 v28 v29 =>
    lt_ (x4 + (1 : Int32)) fun v34 =>
    some (.inl (C27, v28, v34)))
def f_X8_flood (N : Nat) (S : wg_Sh) (C : wg_C) (p1 : Int32) (p2 n2 : Nat) : Option (Int32 × wg_C) :=
  bd (f_J7_fill_53178 N C 41 32 (0 : Int32)) fun C2 =>
  bd3 (lp (fun o => f_X8_flood_l13 N S p2 n2  p1 o.1 o.2.1 o.2.2) N (C2, (0 : Int32), (0 : Int32))) fun C36 v37 v38 =>
  some (v37, C36)
abbrev G_X8_flood (p : Program) (l : Launch) (e : Env) (s : State) (m : MethodId) (args : Array Value) (below : List Frame) (meth : Method) (c : Code) (E : wg_Ev) (ad : Nat → Nat) (S : wg_Sh) (r0 : Int32) (C0 : wg_C) (M0 : wg_M) (pc : Nat) (C : wg_C) (M : wg_M) (lv : List (Nat × Value)) (st : List Value) : Prop := wg_G p l e (wg_Rm 4 96) s m args below meth c (MQ below (wg_Qi E ad S r0 C0 M0) args s 0 0 (wg_A E)) 8 E ad S 0 0 pc C M lv st
set_option maxHeartbeats 4000000 in
set_option maxRecDepth 100000 in
theorem L_X8_flood_l40 {p : Program} {l : Launch} {e : Env} {s : State} {m : MethodId} {args : Array Value} {below : List Frame} {meth : Method} {c : Code} {E : wg_Ev} {ad : Nat → Nat} {S : wg_Sh} (X : wg_X p s m args meth c cX8_flood 8 RX8 E) (hr : meth.sig.returnType = (some .int)) (hS : wg_SC S) (r0 : Int32) (D0 : wg_C) (M : wg_M) (N : Nat) (p2 n2 : Nat) (hp2 : wg_IA S p2 n2)  (x1 : Int32) (x4 : Int32) (x5 : Nat) (hx5 : wg_id S x5 1) : ∀ (n : Nat) (C : wg_C) (x3 : Int32) (x6 : Int32) (o : (wg_C × Int32 × Int32)), lp (fun o => f_X8_flood_l40 N S p2 n2  x1 x4 x5 o.1 o.2.1 o.2.2) n (C, x3, x6) = some o → (∀ (Dy : wg_C) (y3 : Int32) (y6 : Int32), o = (Dy, y3, y6) → G_X8_flood p l e s m args below meth c E ad S r0 D0 M 117 Dy M [(0, .ref (ad 0)), (1, .int x1), (2, .ref (ad p2)), (3, .int y3), (4, .int x4), (5, .ref (ad x5)), (6, .int y6)] []) → G_X8_flood p l e s m args below meth c E ad S r0 D0 M 40 C M [(0, .ref (ad 0)), (1, .int x1), (2, .ref (ad p2)), (3, .int x3), (4, .int x4), (5, .ref (ad x5)), (6, .int x6)] [] := by
  intro n
  induction n with
  | zero => exact fun _ _ _ o h => (lp_zero h).elim
  | succ n ih =>
    intro C x3 x6 o h K
    obtain ⟨o1, hb, h2⟩ := lp_some h
    replace hb : f_X8_flood_l40 N S p2 n2  x1 x4 x5 C x3 x6 = some o1 := hb
    clear h
    have Kc : ∀ (Dy : wg_C) (y3 : Int32) (y6 : Int32), o1 = Sum.inl (Dy, y3, y6) → G_X8_flood p l e s m args below meth c E ad S r0 D0 M 40 Dy M [(0, .ref (ad 0)), (1, .int x1), (2, .ref (ad p2)), (3, .int y3), (4, .int x4), (5, .ref (ad x5)), (6, .int y6)] [] := fun Dy y3 y6 e1 => by
      subst e1
      exact ih Dy y3 y6 o h2 K
    have Ke : ∀ (Dy : wg_C) (y3 : Int32) (y6 : Int32), o1 = Sum.inr ((Dy, y3, y6)) → G_X8_flood p l e s m args below meth c E ad S r0 D0 M 117 Dy M [(0, .ref (ad 0)), (1, .int x1), (2, .ref (ad p2)), (3, .int y3), (4, .int x4), (5, .ref (ad x5)), (6, .int y6)] [] := fun Dy y3 y6 e1 => by
      subst e1
      exact K Dy y3 y6 (sm_inj (α := (wg_C × Int32 × Int32)) h2).symm
    clear ih K h2
    unfold f_X8_flood_l40 at hb
    have h := hb
    clear hb
    refine wg_iload X 6 dX8_flood_40 rfl ?_
    refine wg_bipush (v := 32) X dX8_flood_42 (by decide) ?_
    refine wg_icmp_ge X 117 dX8_flood_44 (by decide) (fun c5 => ?_) (fun c5 => ?_)
    · have h := if_t c5 h
      exact Ke C x3 x6 (sm_inj h).symm
    · have h := if_f c5 h
      refine wg_aload X 5 dX8_flood_47 rfl ?_
      obtain ⟨r7, h6, h⟩ := bd_some h
      refine wg_callVi (As := []) (rest := []) X (c_X1_leads l E ad S hS C M x5 hx5 h6) T_yX1_leads k_771 cl1 hx5 dX8_flood_49 rfl rfl (Nat.le_of_ble_eq_true rfl) ⟨Nat.le_of_ble_eq_true rfl, Nat.le_of_ble_eq_true rfl⟩ ⟨Nat.zero_le _, Nat.zero_le _⟩ ?_
      refine wg_iload_n X 1 dX8_flood_52 rfl rfl ?_
      refine wg_icmp_ne X 117 dX8_flood_53 (by decide) (fun c8 => ?_) (fun c8 => ?_)
      · have h := if_f c8 h
        exact Ke C x3 x6 (sm_inj h).symm
      · have h := if_t c8 h
        refine wg_aload X 5 dX8_flood_56 rfl ?_
        refine wg_iload X 6 dX8_flood_58 rfl ?_
        refine wg_iconst (v := 2) X dX8_flood_60 (by decide) ?_
        obtain ⟨r10, h9, h⟩ := bd_some h
        refine wg_callVi (As := [.int x6, .int (2 : Int32)]) (rest := []) X (c_X1_passes l E ad S hS C M x5 x6 (2 : Int32) hx5 h9) T_yX1_passes k_561 cl1 hx5 dX8_flood_61 rfl rfl (Nat.le_of_ble_eq_true rfl) ⟨Nat.le_of_ble_eq_true rfl, Nat.le_of_ble_eq_true rfl⟩ ⟨Nat.zero_le _, Nat.zero_le _⟩ ?_
        refine wg_if_eq X 111 dX8_flood_64 (by decide) (fun c11 => ?_) (fun c11 => ?_)
        · have h := if_t c11 h
          obtain ⟨v12, e13, h⟩ := lt_some h
          refine wg_iinc (lv' := [(6, .int v12), (0, .ref (ad 0)), (1, .int x1), (2, .ref (ad p2)), (3, .int x3), (4, .int x4), (5, .ref (ad x5))]) X 6 dX8_flood_111 rfl e13 (by decide) rfl ?_
          refine wg_goto X 40 dX8_flood_114 (by decide) ?_
          refine wg_pick [1, 2, 3, 4, 5, 6, 0] (lv' := [(0, .ref (ad 0)), (1, .int x1), (2, .ref (ad p2)), (3, .int x3), (4, .int x4), (5, .ref (ad x5)), (6, .int v12)]) rfl ?_
          exact Kc C x3 v12 (sm_inj h).symm
        · have h := if_f c11 h
          refine wg_aload_n X 0 dX8_flood_67 rfl rfl ?_
          refine wg_getR (b := 31) X cl8 (SCi hS 0 8 rfl) 5 (by decide) dX8_flood_68 k_477 rfl (SCr hS 0 5 31 rfl) ?_
          refine wg_aload_n X 0 dX8_flood_71 rfl rfl ?_
          refine wg_getR (b := 1) X cl8 (SCi hS 0 8 rfl) 0 (by decide) dX8_flood_72 k_472 rfl (SCr hS 0 0 1 rfl) ?_
          refine wg_getC X cl0 (SCi hS 1 0 rfl) 3 (by decide) dX8_flood_75 k_151 rfl ?_
          refine wg_iconst (v := 1) X dX8_flood_78 (by decide) ?_
          refine wg_aload X 5 dX8_flood_79 rfl ?_
          refine wg_iload X 6 dX8_flood_81 rfl ?_
          refine wg_aload_n X 2 dX8_flood_83 rfl rfl ?_
          obtain ⟨r15, C16, h14, h⟩ := bd2_some h
          refine wg_callVi (As := [.int (C 1 3), .int (1 : Int32), .ref (ad x5), .int x6, .ref (ad p2)]) (rest := []) X (c_X3_worth l E ad S hS N C M (C 1 3) (1 : Int32) x5 x6 p2 n2 hx5 ⟨hp2.1, hp2.2⟩ h14) T_yX3_worth k_772 cl3 (SCi hS 31 3 rfl) dX8_flood_84 rfl rfl (Nat.le_of_ble_eq_true rfl) ⟨Nat.le_of_ble_eq_true rfl, Nat.le_of_ble_eq_true rfl⟩ ⟨Nat.zero_le _, Nat.zero_le _⟩ ?_
          refine wg_istore (lv' := [(7, .int r15), (0, .ref (ad 0)), (1, .int x1), (2, .ref (ad p2)), (3, .int x3), (4, .int x4), (5, .ref (ad x5)), (6, .int x6)]) X dX8_flood_87 rfl (by decide) rfl ?_
          refine wg_aload_n X 1 dX8_flood_89 rfl rfl ?_
          refine wg_getR (b := 41) X cl8 (SCi hS 0 8 rfl) 9 (by decide) dX8_flood_90 k_481 rfl (SCr hS 0 9 41 rfl) ?_
          refine wg_aload X 6 dX8_flood_93 rfl ?_
          refine wg_iload X 7 dX8_flood_95 rfl ?_
          obtain ⟨r18, h17, h⟩ := bd_some h
          refine wg_callVi (As := [.int x6]) (rest := [.ref (ad 41)]) X (c_X1_on l E ad S hS C16 M x5 x6 hx5 h17) T_yX1_on k_557 cl1 hx5 dX8_flood_97 rfl rfl (Nat.le_of_ble_eq_true rfl) ⟨Nat.le_of_ble_eq_true rfl, Nat.le_of_ble_eq_true rfl⟩ ⟨Nat.zero_le _, Nat.zero_le _⟩ ?_
          refine wg_dup2 X dX8_flood_100 rfl rfl ?_
          obtain ⟨z19, h⟩ := ck_some h
          refine wg_iald X (SCi hS 41 10 rfl) (SCl hS 41 32 rfl) z19 dX8_flood_101 ?_
          refine wg_iload X 0 dX8_flood_102 rfl ?_
          refine wg_iadd X dX8_flood_104 ?_
          obtain ⟨z20, h⟩ := ck_some h
          obtain ⟨C21, e22, h⟩ := lt_some h
          refine wg_iaste X (SCi hS 41 10 rfl) (SCl hS 41 32 rfl) z20 dX8_flood_105 e22 ?_
          refine wg_iload_n X 4 dX8_flood_106 rfl rfl ?_
          refine wg_iload X 0 dX8_flood_107 rfl ?_
          refine wg_iadd X dX8_flood_109 ?_
          obtain ⟨v23, e24, h⟩ := lt_some h
          refine wg_istore_n (lv' := [(3, .int v23), (7, .int r15), (0, .ref (ad 0)), (1, .int x1), (2, .ref (ad p2)), (4, .int x4), (5, .ref (ad x5)), (6, .int x6)]) X dX8_flood_110 rfl e24 (by decide) rfl ?_
          obtain ⟨v25, e26, h⟩ := lt_some h
          refine wg_iinc (lv' := [(6, .int v25), (3, .int v23), (7, .int r15), (0, .ref (ad 0)), (1, .int x1), (2, .ref (ad p2)), (4, .int x4), (5, .ref (ad x5))]) X 7 dX8_flood_111 rfl e26 (by decide) rfl ?_
          refine wg_goto X 40 dX8_flood_114 (by decide) ?_
          refine wg_pick [3, 4, 5, 1, 6, 7, 0] (lv' := [(0, .ref (ad 0)), (1, .int x1), (2, .ref (ad p2)), (3, .int v23), (4, .int x4), (5, .ref (ad x5)), (6, .int v25)]) rfl ?_
          exact Kc C21 v23 v25 (sm_inj h).symm
set_option maxHeartbeats 4000000 in
set_option maxRecDepth 100000 in
theorem L_X8_flood_l13 {p : Program} {l : Launch} {e : Env} {s : State} {m : MethodId} {args : Array Value} {below : List Frame} {meth : Method} {c : Code} {E : wg_Ev} {ad : Nat → Nat} {S : wg_Sh} (X : wg_X p s m args meth c cX8_flood 8 RX8 E) (hr : meth.sig.returnType = (some .int)) (hS : wg_SC S) (r0 : Int32) (D0 : wg_C) (M : wg_M) (N : Nat) (p2 n2 : Nat) (hp2 : wg_IA S p2 n2)  (x1 : Int32)  : ∀ (n : Nat) (C : wg_C) (x3 : Int32) (x4 : Int32) (o : (wg_C × Int32 × Int32)), lp (fun o => f_X8_flood_l13 N S p2 n2  x1 o.1 o.2.1 o.2.2) n (C, x3, x4) = some o → (∀ (Dy : wg_C) (y3 : Int32) (y4 : Int32), o = (Dy, y3, y4) → G_X8_flood p l e s m args below meth c E ad S r0 D0 M 123 Dy M [(0, .ref (ad 0)), (1, .int x1), (2, .ref (ad p2)), (3, .int y3), (4, .int y4)] []) → G_X8_flood p l e s m args below meth c E ad S r0 D0 M 13 C M [(0, .ref (ad 0)), (1, .int x1), (2, .ref (ad p2)), (3, .int x3), (4, .int x4)] [] := by
  intro n
  induction n with
  | zero => exact fun _ _ _ o h => (lp_zero h).elim
  | succ n ih =>
    intro C x3 x4 o h K
    obtain ⟨o1, hb, h2⟩ := lp_some h
    replace hb : f_X8_flood_l13 N S p2 n2  x1 C x3 x4 = some o1 := hb
    clear h
    have Kc : ∀ (Dy : wg_C) (y3 : Int32) (y4 : Int32), o1 = Sum.inl (Dy, y3, y4) → G_X8_flood p l e s m args below meth c E ad S r0 D0 M 13 Dy M [(0, .ref (ad 0)), (1, .int x1), (2, .ref (ad p2)), (3, .int y3), (4, .int y4)] [] := fun Dy y3 y4 e1 => by
      subst e1
      exact ih Dy y3 y4 o h2 K
    have Ke : ∀ (Dy : wg_C) (y3 : Int32) (y4 : Int32), o1 = Sum.inr ((Dy, y3, y4)) → G_X8_flood p l e s m args below meth c E ad S r0 D0 M 123 Dy M [(0, .ref (ad 0)), (1, .int x1), (2, .ref (ad p2)), (3, .int y3), (4, .int y4)] [] := fun Dy y3 y4 e1 => by
      subst e1
      exact K Dy y3 y4 (sm_inj (α := (wg_C × Int32 × Int32)) h2).symm
    clear ih K h2
    unfold f_X8_flood_l13 at hb
    have h := hb
    clear hb
    refine wg_iload X 4 dX8_flood_13 rfl ?_
    refine wg_aload_n X 0 dX8_flood_15 rfl rfl ?_
    refine wg_getR (b := 1) X cl8 (SCi hS 0 8 rfl) 0 (by decide) dX8_flood_16 k_472 rfl (SCr hS 0 0 1 rfl) ?_
    refine wg_getC X cl0 (SCi hS 1 0 rfl) 2 (by decide) dX8_flood_19 k_147 rfl ?_
    refine wg_icmp_ge X 123 dX8_flood_22 (by decide) (fun c3 => ?_) (fun c3 => ?_)
    · have h := if_t c3 h
      exact Ke C x3 x4 (sm_inj h).symm
    · have h := if_f c3 h
      refine wg_aload_n X 0 dX8_flood_25 rfl rfl ?_
      refine wg_getR (b := 1) X cl8 (SCi hS 0 8 rfl) 0 (by decide) dX8_flood_26 k_472 rfl (SCr hS 0 0 1 rfl) ?_
      refine wg_getR (b := 3) X cl0 (SCi hS 1 0 rfl) 1 (by decide) dX8_flood_29 k_144 rfl (SCr hS 1 1 3 rfl) ?_
      refine wg_iload X 4 dX8_flood_32 rfl ?_
      obtain ⟨z4, h⟩ := ck_some h
      refine wg_aalS13 (b := 4 + x4.toNatClampNeg) X (SCi hS 3 13 rfl) (SCl hS 3 8 rfl) z4 (SCp hS (inb_lt z4)).1 dX8_flood_34 ?_
      refine wg_astore (lv' := [(5, .ref (ad (4 + x4.toNatClampNeg))), (0, .ref (ad 0)), (1, .int x1), (2, .ref (ad p2)), (3, .int x3), (4, .int x4)]) X dX8_flood_35 rfl (by decide) rfl ?_
      refine wg_iconst (v := 0) X dX8_flood_37 (by decide) ?_
      refine wg_istore (lv' := [(6, .int (0 : Int32)), (5, .ref (ad (4 + x4.toNatClampNeg))), (0, .ref (ad 0)), (1, .int x1), (2, .ref (ad p2)), (3, .int x3), (4, .int x4)]) X dX8_flood_38 rfl (by decide) rfl ?_
      obtain ⟨o30, h31, h⟩ := bd3_o h
      refine wg_pick [2, 3, 4, 5, 6, 1, 0] (lv' := [(0, .ref (ad 0)), (1, .int x1), (2, .ref (ad p2)), (3, .int x3), (4, .int x4), (5, .ref (ad (4 + x4.toNatClampNeg))), (6, .int (0 : Int32))]) rfl ?_
      refine L_X8_flood_l40 X hr hS r0 D0 M N p2 n2 hp2  x1 x4 (4 + x4.toNatClampNeg) ((SCp hS (inb_lt z4)).2.1) N C x3 (0 : Int32) o30 h31 (fun C27 v28 v29 e33 => ?_)
      · subst e33
        replace h := bd3_in h
        obtain ⟨v34, e35, h⟩ := lt_some h
        refine wg_iinc (lv' := [(4, .int v34), (0, .ref (ad 0)), (1, .int x1), (2, .ref (ad p2)), (3, .int v28), (5, .ref (ad (4 + x4.toNatClampNeg))), (6, .int v29)]) X 4 dX8_flood_117 rfl e35 (by decide) rfl ?_
        refine wg_goto X 13 dX8_flood_120 (by decide) ?_
        refine wg_pick [1, 2, 3, 4, 0] (lv' := [(0, .ref (ad 0)), (1, .int x1), (2, .ref (ad p2)), (3, .int v28), (4, .int v34)]) rfl ?_
        exact Kc C27 v28 v34 (sm_inj h).symm
set_option maxHeartbeats 4000000 in
set_option maxRecDepth 100000 in
theorem c_X8_flood (l : Launch) (E : wg_Ev) (ad : Nat → Nat) (S : wg_Sh) (hS : wg_SC S) (N : Nat) (C : wg_C) (M : wg_M) (p1 : Int32) (p2 n2 : Nat) (hp2 : wg_IA S p2 n2) {r0 : Int32} {D0 : wg_C} (h : f_X8_flood N S C p1 p2 n2 = some (r0, D0)) : wg_Ci l yX8_flood cX8_flood 8 (some .int) 4 96 E ad S C M [.ref (ad 0), .int p1, .ref (ad p2)] r0 D0 M := by
  refine wg_start (own := RX8) (by decide +kernel) rfl (Nat.le_of_ble_eq_true rfl) ?_
  intro p e s m below meth c X hr hnm
  refine wg_lv (lv' := [(0, .ref (ad 0)), (1, .int p1), (2, .ref (ad p2))]) rfl ?_
  unfold f_X8_flood at h
  refine wg_aload_n X 0 dX8_flood_0 rfl rfl ?_
  refine wg_getR (b := 41) X cl8 (SCi hS 0 8 rfl) 9 (by decide) dX8_flood_1 k_481 rfl (SCr hS 0 9 41 rfl) ?_
  refine wg_iconst (v := 0) X dX8_flood_4 (by decide) ?_
  obtain ⟨C2, h1, h⟩ := bd_some h
  refine wg_callSv (As := [.ref (ad 41), .int (0 : Int32)]) (rest := []) X (c_J7_fill_53178 l E ad S hS N C M 41 32 (0 : Int32) ⟨(SCi hS 41 10 rfl), (SCl hS 41 32 rfl)⟩ h1) T_yJ7_fill_53178 k_770 dX8_flood_5 rfl rfl (Nat.le_of_ble_eq_true rfl) ⟨Nat.le_of_ble_eq_true rfl, Nat.le_of_ble_eq_true rfl⟩ ⟨Nat.zero_le _, Nat.zero_le _⟩ ?_
  refine wg_iconst (v := 0) X dX8_flood_8 (by decide) ?_
  refine wg_istore_n (lv' := [(3, .int (0 : Int32)), (0, .ref (ad 0)), (1, .int p1), (2, .ref (ad p2))]) X dX8_flood_9 rfl rfl (by decide) rfl ?_
  refine wg_iconst (v := 0) X dX8_flood_10 (by decide) ?_
  refine wg_istore (lv' := [(4, .int (0 : Int32)), (3, .int (0 : Int32)), (0, .ref (ad 0)), (1, .int p1), (2, .ref (ad p2))]) X dX8_flood_11 rfl (by decide) rfl ?_
  obtain ⟨o39, h40, h⟩ := bd3_o h
  refine wg_pick [2, 3, 4, 1, 0] (lv' := [(0, .ref (ad 0)), (1, .int p1), (2, .ref (ad p2)), (3, .int (0 : Int32)), (4, .int (0 : Int32))]) rfl ?_
  refine L_X8_flood_l13 X hr hS r0 D0 M N p2 n2 hp2  p1  N C2 (0 : Int32) (0 : Int32) o39 h40 (fun C36 v37 v38 e42 => ?_)
  · subst e42
    replace h := bd3_in h
    refine wg_iload_n X 3 dX8_flood_123 rfl rfl ?_
    exact wg_iret X ⟨(Prod.mk.inj (sm_inj h)).1, (Prod.mk.inj (sm_inj h)).2, rfl⟩ hr dX8_flood_124
-- WindowsGive.water(II)I (('c', 0), 'i', 'i')
def f_X8_water (N : Nat) (S : wg_Sh) (C : wg_C) (p1 : Int32) (p2 : Int32) : Option (Int32 × wg_C) :=
  bd (f_X8_isRoom p1) fun r2 =>
  if r2 = 0 then (
    some ((-2 : Int32), C))
  else (
    bd (f_X8_isDay p2) fun r5 =>
    if r5 = 0 then (
      some ((-2 : Int32), C))
    else (
      bd2 (f_X8_flood N S C p1 2 32) fun r8 C9 =>
      ck (inb p2 32) <|
      some ((C9 41 p2.toNatClampNeg), C9)))
set_option maxHeartbeats 4000000 in
set_option maxRecDepth 100000 in
theorem c_X8_water (l : Launch) (E : wg_Ev) (ad : Nat → Nat) (S : wg_Sh) (hS : wg_SC S) (N : Nat) (C : wg_C) (M : wg_M) (p1 : Int32) (p2 : Int32)  {r0 : Int32} {D0 : wg_C} (h : f_X8_water N S C p1 p2 = some (r0, D0)) : wg_Ci l yX8_water cX8_water 3 (some .int) 5 123 E ad S C M [.ref (ad 0), .int p1, .int p2] r0 D0 M := by
  refine wg_start (own := RX8) (by decide +kernel) rfl (Nat.le_of_ble_eq_true rfl) ?_
  intro p e s m below meth c X hr hnm
  refine wg_lv (lv' := [(0, .ref (ad 0)), (1, .int p1), (2, .int p2)]) rfl ?_
  unfold f_X8_water at h
  refine wg_iload_n X 1 dX8_water_0 rfl rfl ?_
  obtain ⟨r2, h1, h⟩ := bd_some h
  refine wg_callSi (As := [.int p1]) (rest := []) X (c_X8_isRoom l E ad S C M p1  h1) T_yX8_isRoom k_535 dX8_water_1 rfl rfl (Nat.le_of_ble_eq_true rfl) ⟨Nat.le_of_ble_eq_true rfl, Nat.le_of_ble_eq_true rfl⟩ ⟨Nat.zero_le _, Nat.zero_le _⟩ ?_
  refine wg_if_eq X 14 dX8_water_4 (by decide) (fun c3 => ?_) (fun c3 => ?_)
  · have h := if_t c3 h
    refine wg_bipush (v := -2) X dX8_water_14 (by decide) ?_
    exact wg_iret X ⟨(Prod.mk.inj (sm_inj h)).1, (Prod.mk.inj (sm_inj h)).2, rfl⟩ hr dX8_water_16
  · have h := if_f c3 h
    refine wg_iload_n X 2 dX8_water_7 rfl rfl ?_
    obtain ⟨r5, h4, h⟩ := bd_some h
    refine wg_callSi (As := [.int p2]) (rest := []) X (c_X8_isDay l E ad S C M p2  h4) T_yX8_isDay k_517 dX8_water_8 rfl rfl (Nat.le_of_ble_eq_true rfl) ⟨Nat.le_of_ble_eq_true rfl, Nat.le_of_ble_eq_true rfl⟩ ⟨Nat.zero_le _, Nat.zero_le _⟩ ?_
    refine wg_if_ne X 17 dX8_water_11 (by decide) (fun c6 => ?_) (fun c6 => ?_)
    · have h := if_f c6 h
      refine wg_aload_n X 0 dX8_water_17 rfl rfl ?_
      refine wg_iload_n X 1 dX8_water_18 rfl rfl ?_
      refine wg_aload_n X 0 dX8_water_19 rfl rfl ?_
      refine wg_getR (b := 1) X cl8 (SCi hS 0 8 rfl) 0 (by decide) dX8_water_20 k_472 rfl (SCr hS 0 0 1 rfl) ?_
      refine wg_getR (b := 2) X cl0 (SCi hS 1 0 rfl) 0 (by decide) dX8_water_23 k_141 rfl (SCr hS 1 0 2 rfl) ?_
      obtain ⟨r8, C9, h7, h⟩ := bd2_some h
      refine wg_callVi (As := [.int p1, .ref (ad 2)]) (rest := []) X (c_X8_flood l E ad S hS N C M p1 2 32 ⟨(SCi hS 2 10 rfl), (SCl hS 2 32 rfl)⟩ h7) T_yX8_flood k_766 cl8 (SCi hS 0 8 rfl) dX8_water_26 rfl rfl (Nat.le_of_ble_eq_true rfl) ⟨Nat.le_of_ble_eq_true rfl, Nat.le_of_ble_eq_true rfl⟩ ⟨Nat.zero_le _, Nat.zero_le _⟩ ?_
      refine wg_pop X dX8_water_29 rfl ?_
      refine wg_aload_n X 0 dX8_water_30 rfl rfl ?_
      refine wg_getR (b := 41) X cl8 (SCi hS 0 8 rfl) 9 (by decide) dX8_water_31 k_481 rfl (SCr hS 0 9 41 rfl) ?_
      refine wg_iload_n X 2 dX8_water_34 rfl rfl ?_
      obtain ⟨z10, h⟩ := ck_some h
      refine wg_iald X (SCi hS 41 10 rfl) (SCl hS 41 32 rfl) z10 dX8_water_35 ?_
      exact wg_iret X ⟨(Prod.mk.inj (sm_inj h)).1, (Prod.mk.inj (sm_inj h)).2, rfl⟩ hr dX8_water_36
    · have h := if_t c6 h
      refine wg_bipush (v := -2) X dX8_water_14 (by decide) ?_
      exact wg_iret X ⟨(Prod.mk.inj (sm_inj h)).1, (Prod.mk.inj (sm_inj h)).2, rfl⟩ hr dX8_water_16
-- WindowsGive.wettest(II)I (('c', 0), 'i', 'i')
def f_X8_wettest_l45 (N : Nat) (S : wg_Sh) (C : wg_C)   (x4 : Int32) (x5 : Int32) : Option ((Int32 × Int32) ⊕ (Int32 × Int32)) :=
  if (32 : Int32) ≤ x5 then (
    some (.inr (x4, x5)))
  else (
    ck (inb x5 32) <|
    ck (inb x4 32) <|
    if (C 41 x5.toNatClampNeg) ≤ (C 41 x4.toNatClampNeg) then (
      lt_ (x5 + (1 : Int32)) fun v14 =>
      some (.inl (x4, v14)))
    else (
      lt_ (x5 + (1 : Int32)) fun v16 =>
      some (.inl (x5, v16))))
def f_X8_wettest (N : Nat) (S : wg_Sh) (C : wg_C) (p1 : Int32) (p2 : Int32) : Option (Int32 × wg_C) :=
  bd (f_X8_isRoom p1) fun r2 =>
  if r2 = 0 then (
    some ((-2 : Int32), C))
  else (
    if p2 < 0 then (
      some ((-2 : Int32), C))
    else (
      if p2 ≤ (1 : Int32) then (
        bd2 (f_X8_flood N S C p1 2 32) fun r7 C8 =>
        if p2 = (1 : Int32) then (
          some (r7, C8))
        else (
          bd2 (lp (fun o => f_X8_wettest_l45 N S C8   o.1 o.2) N ((0 : Int32), (1 : Int32))) fun v18 v19 =>
          some (v18, C8)))
      else (
        some ((-2 : Int32), C))))
abbrev G_X8_wettest (p : Program) (l : Launch) (e : Env) (s : State) (m : MethodId) (args : Array Value) (below : List Frame) (meth : Method) (c : Code) (E : wg_Ev) (ad : Nat → Nat) (S : wg_Sh) (r0 : Int32) (C0 : wg_C) (M0 : wg_M) (pc : Nat) (C : wg_C) (M : wg_M) (lv : List (Nat × Value)) (st : List Value) : Prop := wg_G p l e (wg_Rm 5 123) s m args below meth c (MQ below (wg_Qi E ad S r0 C0 M0) args s 0 0 (wg_A E)) 6 E ad S 0 0 pc C M lv st
set_option maxHeartbeats 4000000 in
set_option maxRecDepth 100000 in
theorem L_X8_wettest_l45 {p : Program} {l : Launch} {e : Env} {s : State} {m : MethodId} {args : Array Value} {below : List Frame} {meth : Method} {c : Code} {E : wg_Ev} {ad : Nat → Nat} {S : wg_Sh} (X : wg_X p s m args meth c cX8_wettest 6 RX8 E) (hr : meth.sig.returnType = (some .int)) (hS : wg_SC S) (r0 : Int32) (D0 : wg_C) (M : wg_M) (N : Nat)  (C : wg_C)    : ∀ (n : Nat) (x4 : Int32) (x5 : Int32) (o : (Int32 × Int32)), lp (fun o => f_X8_wettest_l45 N S C   o.1 o.2) n (x4, x5) = some o → (∀ (y4 : Int32) (y5 : Int32), o = (y4, y5) → G_X8_wettest p l e s m args below meth c E ad S r0 D0 M 79 C M [(0, .ref (ad 0)), (4, .int y4), (5, .int y5)] []) → G_X8_wettest p l e s m args below meth c E ad S r0 D0 M 45 C M [(0, .ref (ad 0)), (4, .int x4), (5, .int x5)] [] := by
  intro n
  induction n with
  | zero => exact fun _ _ o h => (lp_zero h).elim
  | succ n ih =>
    intro x4 x5 o h K
    obtain ⟨o1, hb, h2⟩ := lp_some h
    replace hb : f_X8_wettest_l45 N S C   x4 x5 = some o1 := hb
    clear h
    have Kc : ∀ (y4 : Int32) (y5 : Int32), o1 = Sum.inl (y4, y5) → G_X8_wettest p l e s m args below meth c E ad S r0 D0 M 45 C M [(0, .ref (ad 0)), (4, .int y4), (5, .int y5)] [] := fun y4 y5 e1 => by
      subst e1
      exact ih y4 y5 o h2 K
    have Ke : ∀ (y4 : Int32) (y5 : Int32), o1 = Sum.inr ((y4, y5)) → G_X8_wettest p l e s m args below meth c E ad S r0 D0 M 79 C M [(0, .ref (ad 0)), (4, .int y4), (5, .int y5)] [] := fun y4 y5 e1 => by
      subst e1
      exact K y4 y5 (sm_inj (α := (Int32 × Int32)) h2).symm
    clear ih K h2
    unfold f_X8_wettest_l45 at hb
    have h := hb
    clear hb
    refine wg_iload X 2 dX8_wettest_45 rfl ?_
    refine wg_bipush (v := 32) X dX8_wettest_47 (by decide) ?_
    refine wg_icmp_ge X 79 dX8_wettest_49 (by decide) (fun c10 => ?_) (fun c10 => ?_)
    · have h := if_t c10 h
      exact Ke x4 x5 (sm_inj h).symm
    · have h := if_f c10 h
      refine wg_aload_n X 0 dX8_wettest_52 rfl rfl ?_
      refine wg_getR (b := 41) X cl8 (SCi hS 0 8 rfl) 9 (by decide) dX8_wettest_53 k_481 rfl (SCr hS 0 9 41 rfl) ?_
      refine wg_iload X 2 dX8_wettest_56 rfl ?_
      obtain ⟨z11, h⟩ := ck_some h
      refine wg_iald X (SCi hS 41 10 rfl) (SCl hS 41 32 rfl) z11 dX8_wettest_58 ?_
      refine wg_aload_n X 0 dX8_wettest_59 rfl rfl ?_
      refine wg_getR (b := 41) X cl8 (SCi hS 0 8 rfl) 9 (by decide) dX8_wettest_60 k_481 rfl (SCr hS 0 9 41 rfl) ?_
      refine wg_iload X 1 dX8_wettest_63 rfl ?_
      obtain ⟨z12, h⟩ := ck_some h
      refine wg_iald X (SCi hS 41 10 rfl) (SCl hS 41 32 rfl) z12 dX8_wettest_65 ?_
      refine wg_icmp_le X 73 dX8_wettest_66 (by decide) (fun c13 => ?_) (fun c13 => ?_)
      · have h := if_t c13 h
        obtain ⟨v14, e15, h⟩ := lt_some h
        refine wg_iinc (lv' := [(5, .int v14), (0, .ref (ad 0)), (4, .int x4)]) X 2 dX8_wettest_73 rfl e15 (by decide) rfl ?_
        refine wg_goto X 45 dX8_wettest_76 (by decide) ?_
        refine wg_pick [1, 2, 0] (lv' := [(0, .ref (ad 0)), (4, .int x4), (5, .int v14)]) rfl ?_
        exact Kc x4 v14 (sm_inj h).symm
      · have h := if_f c13 h
        refine wg_iload X 2 dX8_wettest_69 rfl ?_
        refine wg_istore (lv' := [(4, .int x5), (0, .ref (ad 0)), (5, .int x5)]) X dX8_wettest_71 rfl (by decide) rfl ?_
        obtain ⟨v16, e17, h⟩ := lt_some h
        refine wg_iinc (lv' := [(5, .int v16), (4, .int x5), (0, .ref (ad 0))]) X 2 dX8_wettest_73 rfl e17 (by decide) rfl ?_
        refine wg_goto X 45 dX8_wettest_76 (by decide) ?_
        refine wg_pick [2, 1, 0] (lv' := [(0, .ref (ad 0)), (4, .int x5), (5, .int v16)]) rfl ?_
        exact Kc x5 v16 (sm_inj h).symm
set_option maxHeartbeats 4000000 in
set_option maxRecDepth 100000 in
theorem c_X8_wettest (l : Launch) (E : wg_Ev) (ad : Nat → Nat) (S : wg_Sh) (hS : wg_SC S) (N : Nat) (C : wg_C) (M : wg_M) (p1 : Int32) (p2 : Int32)  {r0 : Int32} {D0 : wg_C} (h : f_X8_wettest N S C p1 p2 = some (r0, D0)) : wg_Ci l yX8_wettest cX8_wettest 6 (some .int) 5 123 E ad S C M [.ref (ad 0), .int p1, .int p2] r0 D0 M := by
  refine wg_start (own := RX8) (by decide +kernel) rfl (Nat.le_of_ble_eq_true rfl) ?_
  intro p e s m below meth c X hr hnm
  refine wg_lv (lv' := [(0, .ref (ad 0)), (1, .int p1), (2, .int p2)]) rfl ?_
  unfold f_X8_wettest at h
  refine wg_iload_n X 1 dX8_wettest_0 rfl rfl ?_
  obtain ⟨r2, h1, h⟩ := bd_some h
  refine wg_callSi (As := [.int p1]) (rest := []) X (c_X8_isRoom l E ad S C M p1  h1) T_yX8_isRoom k_535 dX8_wettest_1 rfl rfl (Nat.le_of_ble_eq_true rfl) ⟨Nat.le_of_ble_eq_true rfl, Nat.le_of_ble_eq_true rfl⟩ ⟨Nat.zero_le _, Nat.zero_le _⟩ ?_
  refine wg_if_eq X 16 dX8_wettest_4 (by decide) (fun c3 => ?_) (fun c3 => ?_)
  · have h := if_t c3 h
    refine wg_bipush (v := -2) X dX8_wettest_16 (by decide) ?_
    exact wg_iret X ⟨(Prod.mk.inj (sm_inj h)).1, (Prod.mk.inj (sm_inj h)).2, rfl⟩ hr dX8_wettest_18
  · have h := if_f c3 h
    refine wg_iload_n X 2 dX8_wettest_7 rfl rfl ?_
    refine wg_if_lt X 16 dX8_wettest_8 (by decide) (fun c4 => ?_) (fun c4 => ?_)
    · have h := if_t c4 h
      refine wg_bipush (v := -2) X dX8_wettest_16 (by decide) ?_
      exact wg_iret X ⟨(Prod.mk.inj (sm_inj h)).1, (Prod.mk.inj (sm_inj h)).2, rfl⟩ hr dX8_wettest_18
    · have h := if_f c4 h
      refine wg_iload_n X 2 dX8_wettest_11 rfl rfl ?_
      refine wg_iconst (v := 1) X dX8_wettest_12 (by decide) ?_
      refine wg_icmp_le X 19 dX8_wettest_13 (by decide) (fun c5 => ?_) (fun c5 => ?_)
      · have h := if_t c5 h
        refine wg_aload_n X 0 dX8_wettest_19 rfl rfl ?_
        refine wg_iload_n X 1 dX8_wettest_20 rfl rfl ?_
        refine wg_aload_n X 0 dX8_wettest_21 rfl rfl ?_
        refine wg_getR (b := 1) X cl8 (SCi hS 0 8 rfl) 0 (by decide) dX8_wettest_22 k_472 rfl (SCr hS 0 0 1 rfl) ?_
        refine wg_getR (b := 2) X cl0 (SCi hS 1 0 rfl) 0 (by decide) dX8_wettest_25 k_141 rfl (SCr hS 1 0 2 rfl) ?_
        obtain ⟨r7, C8, h6, h⟩ := bd2_some h
        refine wg_callVi (As := [.int p1, .ref (ad 2)]) (rest := []) X (c_X8_flood l E ad S hS N C M p1 2 32 ⟨(SCi hS 2 10 rfl), (SCl hS 2 32 rfl)⟩ h6) T_yX8_flood k_766 cl8 (SCi hS 0 8 rfl) dX8_wettest_28 rfl rfl (Nat.le_of_ble_eq_true rfl) ⟨Nat.le_of_ble_eq_true rfl, Nat.le_of_ble_eq_true rfl⟩ ⟨Nat.zero_le _, Nat.zero_le _⟩ ?_
        refine wg_istore_n (lv' := [(3, .int r7), (0, .ref (ad 0)), (1, .int p1), (2, .int p2)]) X dX8_wettest_31 rfl rfl (by decide) rfl ?_
        refine wg_iload_n X 3 dX8_wettest_32 rfl rfl ?_
        refine wg_iconst (v := 1) X dX8_wettest_33 (by decide) ?_
        refine wg_icmp_ne X 39 dX8_wettest_34 (by decide) (fun c9 => ?_) (fun c9 => ?_)
        · have h := if_f c9 h
          refine wg_iconst (v := 0) X dX8_wettest_39 (by decide) ?_
          refine wg_istore (lv' := [(4, .int (0 : Int32)), (3, .int r7), (0, .ref (ad 0)), (1, .int p1), (2, .int p2)]) X dX8_wettest_40 rfl (by decide) rfl ?_
          refine wg_iconst (v := 1) X dX8_wettest_42 (by decide) ?_
          refine wg_istore (lv' := [(5, .int (1 : Int32)), (4, .int (0 : Int32)), (3, .int r7), (0, .ref (ad 0)), (1, .int p1), (2, .int p2)]) X dX8_wettest_43 rfl (by decide) rfl ?_
          obtain ⟨o20, h21, h⟩ := bd2_o h
          refine wg_pick [3, 1, 0] (lv' := [(0, .ref (ad 0)), (4, .int (0 : Int32)), (5, .int (1 : Int32))]) rfl ?_
          refine L_X8_wettest_l45 X hr hS r0 D0 M N  C8    N (0 : Int32) (1 : Int32) o20 h21 (fun v18 v19 e23 => ?_)
          · subst e23
            replace h := bd2_in h
            refine wg_iload X 1 dX8_wettest_79 rfl ?_
            exact wg_iret X ⟨(Prod.mk.inj (sm_inj h)).1, (Prod.mk.inj (sm_inj h)).2, rfl⟩ hr dX8_wettest_81
        · have h := if_t c9 h
          refine wg_iload_n X 0 dX8_wettest_37 rfl rfl ?_
          exact wg_iret X ⟨(Prod.mk.inj (sm_inj h)).1, (Prod.mk.inj (sm_inj h)).2, rfl⟩ hr dX8_wettest_38
      · have h := if_f c5 h
        refine wg_bipush (v := -2) X dX8_wettest_16 (by decide) ?_
        exact wg_iret X ⟨(Prod.mk.inj (sm_inj h)).1, (Prod.mk.inj (sm_inj h)).2, rfl⟩ hr dX8_wettest_18
-- WindowsGive.fillPrices(I)V (('c', 0), 'i')
def f_X8_fillPrices_j41l2 (N : Nat) (S : wg_Sh) (C : wg_C)  (x1 : Int32) (x2 : Int32) (s0 : Int32) : Option ((wg_C × Int32) ⊕ (wg_C × Int32)) :=
  if s0 = 0 then (
    ck (inb x2 8) <|
    lt_ (wg_up C 43 x2.toNatClampNeg (-1 : Int32)) fun C5 =>
    lt_ (x2 + (1 : Int32)) fun v7 =>
    some (.inl (C5, v7)))
  else (
    ck (inb x2 8) <|
    bd2 (f_X3_worth N S C (C 1 3) (2 : Int32) (4 + x2.toNatClampNeg) x1 2 32) fun r11 C12 =>
    ck (inb x2 8) <|
    lt_ (wg_up C12 43 x2.toNatClampNeg r11) fun C14 =>
    lt_ (x2 + (1 : Int32)) fun v16 =>
    some (.inl (C14, v16)))
def f_X8_fillPrices_l2 (N : Nat) (S : wg_Sh)  (x1 : Int32) (C : wg_C) (x2 : Int32) : Option ((wg_C × Int32) ⊕ (wg_C × Int32)) :=
  if (8 : Int32) ≤ x2 then (
    some (.inr (C, x2)))
  else (
    if (C 1 2) ≤ x2 then (
      f_X8_fillPrices_j41l2 N S C  x1 x2 (0 : Int32))
    else (
      ck (inb x2 8) <|
      bd (f_X1_passes C (4 + x2.toNatClampNeg) x1 (0 : Int32)) fun r20 =>
      if r20 = 0 then (
        f_X8_fillPrices_j41l2 N S C  x1 x2 (0 : Int32))
      else (
        f_X8_fillPrices_j41l2 N S C  x1 x2 (1 : Int32))))
def f_X8_fillPrices (N : Nat) (S : wg_Sh) (C : wg_C) (p1 : Int32) : Option wg_C :=
  bd2 (lp (fun o => f_X8_fillPrices_l2 N S  p1 o.1 o.2) N (C, (0 : Int32))) fun C22 v23 =>
  some C22
abbrev G_X8_fillPrices (p : Program) (l : Launch) (e : Env) (s : State) (m : MethodId) (args : Array Value) (below : List Frame) (meth : Method) (c : Code) (E : wg_Ev) (ad : Nat → Nat) (S : wg_Sh) (C0 : wg_C) (M0 : wg_M) (pc : Nat) (C : wg_C) (M : wg_M) (lv : List (Nat × Value)) (st : List Value) : Prop := wg_G p l e (wg_Rm 4 96) s m args below meth c (MQ below (wg_Qv E ad S C0 M0) args s 0 0 (wg_A E)) 4 E ad S 0 0 pc C M lv st
set_option maxHeartbeats 4000000 in
set_option maxRecDepth 100000 in
theorem J_X8_fillPrices_j41l2 {p : Program} {l : Launch} {e : Env} {s : State} {m : MethodId} {args : Array Value} {below : List Frame} {meth : Method} {c : Code} {E : wg_Ev} {ad : Nat → Nat} {S : wg_Sh} (X : wg_X p s m args meth c cX8_fillPrices 4 RX8 E) (hr : meth.sig.returnType = none) (hS : wg_SC S) (D0 : wg_C) (M : wg_M) (N : Nat)  (C : wg_C)  (x1 : Int32) (x2 : Int32) (s0 : Int32)  (y : ((wg_C × Int32) ⊕ (wg_C × Int32))) (Kc : ∀ (Dy : wg_C) (y2 : Int32), y = Sum.inl (Dy, y2) → G_X8_fillPrices p l e s m args below meth c E ad S D0 M 2 Dy M [(0, .ref (ad 0)), (1, .int x1), (2, .int y2)] []) (Ke : ∀ (Dy : wg_C) (y2 : Int32), y = Sum.inr ((Dy, y2)) → G_X8_fillPrices p l e s m args below meth c E ad S D0 M 94 Dy M [(0, .ref (ad 0)), (1, .int x1), (2, .int y2)] []) (h : f_X8_fillPrices_j41l2 N S C  x1 x2 s0 = some y) : G_X8_fillPrices p l e s m args below meth c E ad S D0 M 41 C M [(0, .ref (ad 0)), (1, .int x1), (2, .int x2)] [.int s0] := by
  unfold f_X8_fillPrices_j41l2 at h
  refine wg_istore_n (lv' := [(3, .int s0), (0, .ref (ad 0)), (1, .int x1), (2, .int x2)]) X dX8_fillPrices_41 rfl rfl (by decide) rfl ?_
  refine wg_aload_n X 1 dX8_fillPrices_42 rfl rfl ?_
  refine wg_getR (b := 43) X cl8 (SCi hS 0 8 rfl) 11 (by decide) dX8_fillPrices_43 k_483 rfl (SCr hS 0 11 43 rfl) ?_
  refine wg_iload_n X 3 dX8_fillPrices_46 rfl rfl ?_
  refine wg_iload_n X 0 dX8_fillPrices_47 rfl rfl ?_
  refine wg_if_eq X 86 dX8_fillPrices_48 (by decide) (fun c3 => ?_) (fun c3 => ?_)
  · have h := if_t c3 h
    refine wg_iconst (v := -1) X dX8_fillPrices_86 (by decide) ?_
    obtain ⟨z4, h⟩ := ck_some h
    obtain ⟨C5, e6, h⟩ := lt_some h
    refine wg_iaste X (SCi hS 43 10 rfl) (SCl hS 43 8 rfl) z4 dX8_fillPrices_87 e6 ?_
    obtain ⟨v7, e8, h⟩ := lt_some h
    refine wg_iinc (lv' := [(2, .int v7), (3, .int s0), (0, .ref (ad 0)), (1, .int x1)]) X 3 dX8_fillPrices_88 rfl e8 (by decide) rfl ?_
    refine wg_goto X 2 dX8_fillPrices_91 (by decide) ?_
    refine wg_pick [2, 3, 0] (lv' := [(0, .ref (ad 0)), (1, .int x1), (2, .int v7)]) rfl ?_
    exact Kc C5 v7 (sm_inj h).symm
  · have h := if_f c3 h
    refine wg_aload_n X 1 dX8_fillPrices_51 rfl rfl ?_
    refine wg_getR (b := 31) X cl8 (SCi hS 0 8 rfl) 5 (by decide) dX8_fillPrices_52 k_477 rfl (SCr hS 0 5 31 rfl) ?_
    refine wg_aload_n X 1 dX8_fillPrices_55 rfl rfl ?_
    refine wg_getR (b := 1) X cl8 (SCi hS 0 8 rfl) 0 (by decide) dX8_fillPrices_56 k_472 rfl (SCr hS 0 0 1 rfl) ?_
    refine wg_getC X cl0 (SCi hS 1 0 rfl) 3 (by decide) dX8_fillPrices_59 k_151 rfl ?_
    refine wg_iconst (v := 2) X dX8_fillPrices_62 (by decide) ?_
    refine wg_aload_n X 1 dX8_fillPrices_63 rfl rfl ?_
    refine wg_getR (b := 1) X cl8 (SCi hS 0 8 rfl) 0 (by decide) dX8_fillPrices_64 k_472 rfl (SCr hS 0 0 1 rfl) ?_
    refine wg_getR (b := 3) X cl0 (SCi hS 1 0 rfl) 1 (by decide) dX8_fillPrices_67 k_144 rfl (SCr hS 1 1 3 rfl) ?_
    refine wg_iload_n X 3 dX8_fillPrices_70 rfl rfl ?_
    obtain ⟨z9, h⟩ := ck_some h
    refine wg_aalS13 (b := 4 + x2.toNatClampNeg) X (SCi hS 3 13 rfl) (SCl hS 3 8 rfl) z9 (SCp hS (inb_lt z9)).1 dX8_fillPrices_71 ?_
    refine wg_iload_n X 2 dX8_fillPrices_72 rfl rfl ?_
    refine wg_aload_n X 1 dX8_fillPrices_73 rfl rfl ?_
    refine wg_getR (b := 1) X cl8 (SCi hS 0 8 rfl) 0 (by decide) dX8_fillPrices_74 k_472 rfl (SCr hS 0 0 1 rfl) ?_
    refine wg_getR (b := 2) X cl0 (SCi hS 1 0 rfl) 0 (by decide) dX8_fillPrices_77 k_141 rfl (SCr hS 1 0 2 rfl) ?_
    obtain ⟨r11, C12, h10, h⟩ := bd2_some h
    refine wg_callVi (As := [.int (C 1 3), .int (2 : Int32), .ref (ad (4 + x2.toNatClampNeg)), .int x1, .ref (ad 2)]) (rest := [.int x2, .ref (ad 43)]) X (c_X3_worth l E ad S hS N C M (C 1 3) (2 : Int32) (4 + x2.toNatClampNeg) x1 2 32 ((SCp hS (inb_lt z9)).2.1) ⟨(SCi hS 2 10 rfl), (SCl hS 2 32 rfl)⟩ h10) T_yX3_worth k_772 cl3 (SCi hS 31 3 rfl) dX8_fillPrices_80 rfl rfl (Nat.le_of_ble_eq_true rfl) ⟨Nat.le_of_ble_eq_true rfl, Nat.le_of_ble_eq_true rfl⟩ ⟨Nat.zero_le _, Nat.zero_le _⟩ ?_
    refine wg_goto X 87 dX8_fillPrices_83 (by decide) ?_
    obtain ⟨z13, h⟩ := ck_some h
    obtain ⟨C14, e15, h⟩ := lt_some h
    refine wg_iaste X (SCi hS 43 10 rfl) (SCl hS 43 8 rfl) z13 dX8_fillPrices_87 e15 ?_
    obtain ⟨v16, e17, h⟩ := lt_some h
    refine wg_iinc (lv' := [(2, .int v16), (3, .int s0), (0, .ref (ad 0)), (1, .int x1)]) X 3 dX8_fillPrices_88 rfl e17 (by decide) rfl ?_
    refine wg_goto X 2 dX8_fillPrices_91 (by decide) ?_
    refine wg_pick [2, 3, 0] (lv' := [(0, .ref (ad 0)), (1, .int x1), (2, .int v16)]) rfl ?_
    exact Kc C14 v16 (sm_inj h).symm
set_option maxHeartbeats 4000000 in
set_option maxRecDepth 100000 in
theorem L_X8_fillPrices_l2 {p : Program} {l : Launch} {e : Env} {s : State} {m : MethodId} {args : Array Value} {below : List Frame} {meth : Method} {c : Code} {E : wg_Ev} {ad : Nat → Nat} {S : wg_Sh} (X : wg_X p s m args meth c cX8_fillPrices 4 RX8 E) (hr : meth.sig.returnType = none) (hS : wg_SC S) (D0 : wg_C) (M : wg_M) (N : Nat)   (x1 : Int32)  : ∀ (n : Nat) (C : wg_C) (x2 : Int32) (o : (wg_C × Int32)), lp (fun o => f_X8_fillPrices_l2 N S  x1 o.1 o.2) n (C, x2) = some o → (∀ (Dy : wg_C) (y2 : Int32), o = (Dy, y2) → G_X8_fillPrices p l e s m args below meth c E ad S D0 M 94 Dy M [(0, .ref (ad 0)), (1, .int x1), (2, .int y2)] []) → G_X8_fillPrices p l e s m args below meth c E ad S D0 M 2 C M [(0, .ref (ad 0)), (1, .int x1), (2, .int x2)] [] := by
  intro n
  induction n with
  | zero => exact fun _ _ o h => (lp_zero h).elim
  | succ n ih =>
    intro C x2 o h K
    obtain ⟨o1, hb, h2⟩ := lp_some h
    replace hb : f_X8_fillPrices_l2 N S  x1 C x2 = some o1 := hb
    clear h
    have Kc : ∀ (Dy : wg_C) (y2 : Int32), o1 = Sum.inl (Dy, y2) → G_X8_fillPrices p l e s m args below meth c E ad S D0 M 2 Dy M [(0, .ref (ad 0)), (1, .int x1), (2, .int y2)] [] := fun Dy y2 e1 => by
      subst e1
      exact ih Dy y2 o h2 K
    have Ke : ∀ (Dy : wg_C) (y2 : Int32), o1 = Sum.inr ((Dy, y2)) → G_X8_fillPrices p l e s m args below meth c E ad S D0 M 94 Dy M [(0, .ref (ad 0)), (1, .int x1), (2, .int y2)] [] := fun Dy y2 e1 => by
      subst e1
      exact K Dy y2 (sm_inj (α := (wg_C × Int32)) h2).symm
    clear ih K h2
    unfold f_X8_fillPrices_l2 at hb
    have h := hb
    clear hb
    refine wg_iload_n X 2 dX8_fillPrices_2 rfl rfl ?_
    refine wg_bipush (v := 8) X dX8_fillPrices_3 (by decide) ?_
    refine wg_icmp_ge X 94 dX8_fillPrices_5 (by decide) (fun c1 => ?_) (fun c1 => ?_)
    · have h := if_t c1 h
      exact Ke C x2 (sm_inj h).symm
    · have h := if_f c1 h
      refine wg_iload_n X 2 dX8_fillPrices_8 rfl rfl ?_
      refine wg_aload_n X 0 dX8_fillPrices_9 rfl rfl ?_
      refine wg_getR (b := 1) X cl8 (SCi hS 0 8 rfl) 0 (by decide) dX8_fillPrices_10 k_472 rfl (SCr hS 0 0 1 rfl) ?_
      refine wg_getC X cl0 (SCi hS 1 0 rfl) 2 (by decide) dX8_fillPrices_13 k_147 rfl ?_
      refine wg_icmp_ge X 40 dX8_fillPrices_16 (by decide) (fun c2 => ?_) (fun c2 => ?_)
      · have h := if_t c2 h
        refine wg_iconst (v := 0) X dX8_fillPrices_40 (by decide) ?_
        exact J_X8_fillPrices_j41l2 X hr hS D0 M N  C  x1 x2 (0 : Int32)  _ Kc Ke h
      · have h := if_f c2 h
        refine wg_aload_n X 0 dX8_fillPrices_19 rfl rfl ?_
        refine wg_getR (b := 1) X cl8 (SCi hS 0 8 rfl) 0 (by decide) dX8_fillPrices_20 k_472 rfl (SCr hS 0 0 1 rfl) ?_
        refine wg_getR (b := 3) X cl0 (SCi hS 1 0 rfl) 1 (by decide) dX8_fillPrices_23 k_144 rfl (SCr hS 1 1 3 rfl) ?_
        refine wg_iload_n X 2 dX8_fillPrices_26 rfl rfl ?_
        obtain ⟨z18, h⟩ := ck_some h
        refine wg_aalS13 (b := 4 + x2.toNatClampNeg) X (SCi hS 3 13 rfl) (SCl hS 3 8 rfl) z18 (SCp hS (inb_lt z18)).1 dX8_fillPrices_27 ?_
        refine wg_iload_n X 1 dX8_fillPrices_28 rfl rfl ?_
        refine wg_iconst (v := 0) X dX8_fillPrices_29 (by decide) ?_
        obtain ⟨r20, h19, h⟩ := bd_some h
        refine wg_callVi (As := [.int x1, .int (0 : Int32)]) (rest := []) X (c_X1_passes l E ad S hS C M (4 + x2.toNatClampNeg) x1 (0 : Int32) ((SCp hS (inb_lt z18)).2.1) h19) T_yX1_passes k_561 cl1 ((SCp hS (inb_lt z18)).2.1) dX8_fillPrices_30 rfl rfl (Nat.le_of_ble_eq_true rfl) ⟨Nat.le_of_ble_eq_true rfl, Nat.le_of_ble_eq_true rfl⟩ ⟨Nat.zero_le _, Nat.zero_le _⟩ ?_
        refine wg_if_eq X 40 dX8_fillPrices_33 (by decide) (fun c21 => ?_) (fun c21 => ?_)
        · have h := if_t c21 h
          refine wg_iconst (v := 0) X dX8_fillPrices_40 (by decide) ?_
          exact J_X8_fillPrices_j41l2 X hr hS D0 M N  C  x1 x2 (0 : Int32)  _ Kc Ke h
        · have h := if_f c21 h
          refine wg_iconst (v := 1) X dX8_fillPrices_36 (by decide) ?_
          refine wg_goto X 41 dX8_fillPrices_37 (by decide) ?_
          exact J_X8_fillPrices_j41l2 X hr hS D0 M N  C  x1 x2 (1 : Int32)  _ Kc Ke h
set_option maxHeartbeats 4000000 in
set_option maxRecDepth 100000 in
theorem c_X8_fillPrices (l : Launch) (E : wg_Ev) (ad : Nat → Nat) (S : wg_Sh) (hS : wg_SC S) (N : Nat) (C : wg_C) (M : wg_M) (p1 : Int32)  {D0 : wg_C} (h : f_X8_fillPrices N S C p1 = some D0) : wg_Cv l yX8_fillPrices cX8_fillPrices 4 none 4 96 E ad S C M [.ref (ad 0), .int p1] D0 M := by
  refine wg_start (own := RX8) (by decide +kernel) rfl (Nat.le_of_ble_eq_true rfl) ?_
  intro p e s m below meth c X hr hnm
  refine wg_lv (lv' := [(0, .ref (ad 0)), (1, .int p1)]) rfl ?_
  unfold f_X8_fillPrices at h
  refine wg_iconst (v := 0) X dX8_fillPrices_0 (by decide) ?_
  refine wg_istore_n (lv' := [(2, .int (0 : Int32)), (0, .ref (ad 0)), (1, .int p1)]) X dX8_fillPrices_1 rfl rfl (by decide) rfl ?_
  obtain ⟨o24, h25, h⟩ := bd2_o h
  refine wg_pick [1, 2, 0] (lv' := [(0, .ref (ad 0)), (1, .int p1), (2, .int (0 : Int32))]) rfl ?_
  refine L_X8_fillPrices_l2 X hr hS D0 M N   p1  N C (0 : Int32) o24 h25 (fun C22 v23 e27 => ?_)
  · subst e27
    replace h := bd2_in h
    exact wg_vret X ⟨(sm_inj h), rfl⟩ hr dX8_fillPrices_94
-- WindowsGive.holds(II)Z ('i', 'i')
def f_X8_holds (p0 : Int32) (p1 : Int32) : Option Int32 :=
  if ((p0 >>> (((7 : Int32) - p1) &&& 31)) &&& (1 : Int32)) = (1 : Int32) then (
    some (1 : Int32))
  else (
    some (0 : Int32))
set_option maxHeartbeats 4000000 in
set_option maxRecDepth 100000 in
theorem c_X8_holds (l : Launch) (E : wg_Ev) (ad : Nat → Nat) (S : wg_Sh) (C : wg_C) (M : wg_M) (p0 : Int32) (p1 : Int32)  {r0 : Int32} (h : f_X8_holds p0 p1 = some r0) : wg_Ci l yX8_holds cX8_holds 2 (some .boolean) 0 0 E ad S C M [.int p0, .int p1] r0 C M := by
  refine wg_start (own := RX8) (by decide +kernel) rfl (Nat.le_of_ble_eq_true rfl) ?_
  intro p e s m below meth c X hr hnm
  refine wg_lv (lv' := [(0, .int p0), (1, .int p1)]) rfl ?_
  unfold f_X8_holds at h
  refine wg_iload_n X 0 dX8_holds_0 rfl rfl ?_
  refine wg_bipush (v := 7) X dX8_holds_1 (by decide) ?_
  refine wg_iload_n X 1 dX8_holds_3 rfl rfl ?_
  refine wg_isub X dX8_holds_4 ?_
  refine wg_ishr X dX8_holds_5 ?_
  refine wg_iconst (v := 1) X dX8_holds_6 (by decide) ?_
  refine wg_iand X dX8_holds_7 ?_
  refine wg_iconst (v := 1) X dX8_holds_8 (by decide) ?_
  refine wg_icmp_ne X 16 dX8_holds_9 (by decide) (fun c1 => ?_) (fun c1 => ?_)
  · have h := if_f c1 h
    refine wg_iconst (v := 0) X dX8_holds_16 (by decide) ?_
    exact wg_zret X ⟨(sm_inj h), rfl, rfl⟩ hr (by decide) dX8_holds_17
  · have h := if_t c1 h
    refine wg_iconst (v := 1) X dX8_holds_12 (by decide) ?_
    refine wg_goto X 17 dX8_holds_13 (by decide) ?_
    exact wg_zret X ⟨(sm_inj h), rfl, rfl⟩ hr (by decide) dX8_holds_17
-- WindowsGive.priceTogether(I)I (('c', 0), 'i')
def f_X8_priceTogether_l4 (N : Nat) (C : wg_C)  (x1 : Int32) (x2 : Int32) (x3 : Int32) : Option ((Int32 × Int32) ⊕ ((Int32 × Int32) ⊕ Int32)) :=
  if (8 : Int32) ≤ x3 then (
    some (.inr (.inl (x2, x3))))
  else (
    bd (f_X8_holds x1 x3) fun r3 =>
    if r3 = 0 then (
      lt_ (x3 + (1 : Int32)) fun v5 =>
      some (.inl (x2, v5)))
    else (
      ck (inb x3 8) <|
      if (C 43 x3.toNatClampNeg) = (-1 : Int32) then (
        some (.inr (.inr (-1 : Int32))))
      else (
        ck (inb x3 8) <|
        lt_ (x2 + (C 43 x3.toNatClampNeg)) fun v10 =>
        lt_ (x3 + (1 : Int32)) fun v12 =>
        some (.inl (v10, v12)))))
def f_X8_priceTogether (N : Nat) (C : wg_C) (p1 : Int32) : Option Int32 :=
  bs2 (lp (fun o => f_X8_priceTogether_l4 N C  p1 o.1 o.2) N ((0 : Int32), (0 : Int32))) (fun v14 v15 =>
    some v14)
    (fun q18 => some q18)
abbrev G_X8_priceTogether (p : Program) (l : Launch) (e : Env) (s : State) (m : MethodId) (args : Array Value) (below : List Frame) (meth : Method) (c : Code) (E : wg_Ev) (ad : Nat → Nat) (S : wg_Sh) (r0 : Int32) (C0 : wg_C) (M0 : wg_M) (pc : Nat) (C : wg_C) (M : wg_M) (lv : List (Nat × Value)) (st : List Value) : Prop := wg_G p l e (wg_Rm 1 21) s m args below meth c (MQ below (wg_Qi E ad S r0 C0 M0) args s 0 0 (wg_A E)) 4 E ad S 0 0 pc C M lv st
set_option maxHeartbeats 4000000 in
set_option maxRecDepth 100000 in
theorem L_X8_priceTogether_l4 {p : Program} {l : Launch} {e : Env} {s : State} {m : MethodId} {args : Array Value} {below : List Frame} {meth : Method} {c : Code} {E : wg_Ev} {ad : Nat → Nat} {S : wg_Sh} (X : wg_X p s m args meth c cX8_priceTogether 4 RX8 E) (hr : meth.sig.returnType = (some .int)) (hS : wg_SC S) (r0 : Int32) (M : wg_M) (N : Nat)  (C : wg_C)  (x1 : Int32)  : ∀ (n : Nat) (x2 : Int32) (x3 : Int32) (o : ((Int32 × Int32) ⊕ Int32)), lp (fun o => f_X8_priceTogether_l4 N C  x1 o.1 o.2) n (x2, x3) = some o → (∀ (y2 : Int32) (y3 : Int32), o = Sum.inl (y2, y3) → G_X8_priceTogether p l e s m args below meth c E ad S r0 C M 45 C M [(0, .ref (ad 0)), (1, .int x1), (2, .int y2), (3, .int y3)] []) → (∀ q : Int32, o = Sum.inr q → q = r0) → G_X8_priceTogether p l e s m args below meth c E ad S r0 C M 4 C M [(0, .ref (ad 0)), (1, .int x1), (2, .int x2), (3, .int x3)] [] := by
  intro n
  induction n with
  | zero => exact fun _ _ o h => (lp_zero h).elim
  | succ n ih =>
    intro x2 x3 o h K KR
    obtain ⟨o1, hb, h2⟩ := lp_some h
    replace hb : f_X8_priceTogether_l4 N C  x1 x2 x3 = some o1 := hb
    clear h
    have Kc : ∀ (y2 : Int32) (y3 : Int32), o1 = Sum.inl (y2, y3) → G_X8_priceTogether p l e s m args below meth c E ad S r0 C M 4 C M [(0, .ref (ad 0)), (1, .int x1), (2, .int y2), (3, .int y3)] [] := fun y2 y3 e1 => by
      subst e1
      exact ih y2 y3 o h2 K KR
    have Ke : ∀ (y2 : Int32) (y3 : Int32), o1 = Sum.inr (Sum.inl (y2, y3)) → G_X8_priceTogether p l e s m args below meth c E ad S r0 C M 45 C M [(0, .ref (ad 0)), (1, .int x1), (2, .int y2), (3, .int y3)] [] := fun y2 y3 e1 => by
      subst e1
      exact K y2 y3 (sm_inj (α := ((Int32 × Int32) ⊕ Int32)) h2).symm
    have Kr : ∀ q : Int32, o1 = Sum.inr (Sum.inr q) → q = r0 := fun q e1 => by
      subst e1
      exact KR q (sm_inj (α := ((Int32 × Int32) ⊕ Int32)) h2).symm
    clear ih K h2 KR
    unfold f_X8_priceTogether_l4 at hb
    have h := hb
    clear hb
    refine wg_iload_n X 3 dX8_priceTogether_4 rfl rfl ?_
    refine wg_bipush (v := 8) X dX8_priceTogether_5 (by decide) ?_
    refine wg_icmp_ge X 45 dX8_priceTogether_7 (by decide) (fun c1 => ?_) (fun c1 => ?_)
    · have h := if_t c1 h
      exact Ke x2 x3 (sm_inj h).symm
    · have h := if_f c1 h
      refine wg_iload_n X 1 dX8_priceTogether_10 rfl rfl ?_
      refine wg_iload_n X 3 dX8_priceTogether_11 rfl rfl ?_
      obtain ⟨r3, h2, h⟩ := bd_some h
      refine wg_callSi (As := [.int x1, .int x3]) (rest := []) X (c_X8_holds l E ad S C M x1 x3  h2) T_yX8_holds k_789 dX8_priceTogether_12 rfl rfl (Nat.le_of_ble_eq_true rfl) ⟨Nat.le_of_ble_eq_true rfl, Nat.le_of_ble_eq_true rfl⟩ ⟨Nat.zero_le _, Nat.zero_le _⟩ ?_
      refine wg_if_eq X 39 dX8_priceTogether_15 (by decide) (fun c4 => ?_) (fun c4 => ?_)
      · have h := if_t c4 h
        obtain ⟨v5, e6, h⟩ := lt_some h
        refine wg_iinc (lv' := [(3, .int v5), (0, .ref (ad 0)), (1, .int x1), (2, .int x2)]) X 3 dX8_priceTogether_39 rfl e6 (by decide) rfl ?_
        refine wg_goto X 4 dX8_priceTogether_42 (by decide) ?_
        refine wg_pick [1, 2, 3, 0] (lv' := [(0, .ref (ad 0)), (1, .int x1), (2, .int x2), (3, .int v5)]) rfl ?_
        exact Kc x2 v5 (sm_inj h).symm
      · have h := if_f c4 h
        refine wg_aload_n X 0 dX8_priceTogether_18 rfl rfl ?_
        refine wg_getR (b := 43) X cl8 (SCi hS 0 8 rfl) 11 (by decide) dX8_priceTogether_19 k_483 rfl (SCr hS 0 11 43 rfl) ?_
        refine wg_iload_n X 3 dX8_priceTogether_22 rfl rfl ?_
        obtain ⟨z7, h⟩ := ck_some h
        refine wg_iald X (SCi hS 43 10 rfl) (SCl hS 43 8 rfl) z7 dX8_priceTogether_23 ?_
        refine wg_iconst (v := -1) X dX8_priceTogether_24 (by decide) ?_
        refine wg_icmp_ne X 30 dX8_priceTogether_25 (by decide) (fun c8 => ?_) (fun c8 => ?_)
        · have h := if_f c8 h
          refine wg_iload_n X 2 dX8_priceTogether_30 rfl rfl ?_
          refine wg_aload_n X 0 dX8_priceTogether_31 rfl rfl ?_
          refine wg_getR (b := 43) X cl8 (SCi hS 0 8 rfl) 11 (by decide) dX8_priceTogether_32 k_483 rfl (SCr hS 0 11 43 rfl) ?_
          refine wg_iload_n X 3 dX8_priceTogether_35 rfl rfl ?_
          obtain ⟨z9, h⟩ := ck_some h
          refine wg_iald X (SCi hS 43 10 rfl) (SCl hS 43 8 rfl) z9 dX8_priceTogether_36 ?_
          refine wg_iadd X dX8_priceTogether_37 ?_
          obtain ⟨v10, e11, h⟩ := lt_some h
          refine wg_istore_n (lv' := [(2, .int v10), (0, .ref (ad 0)), (1, .int x1), (3, .int x3)]) X dX8_priceTogether_38 rfl e11 (by decide) rfl ?_
          obtain ⟨v12, e13, h⟩ := lt_some h
          refine wg_iinc (lv' := [(3, .int v12), (2, .int v10), (0, .ref (ad 0)), (1, .int x1)]) X 3 dX8_priceTogether_39 rfl e13 (by decide) rfl ?_
          refine wg_goto X 4 dX8_priceTogether_42 (by decide) ?_
          refine wg_pick [2, 3, 1, 0] (lv' := [(0, .ref (ad 0)), (1, .int x1), (2, .int v10), (3, .int v12)]) rfl ?_
          exact Kc v10 v12 (sm_inj h).symm
        · have h := if_t c8 h
          refine wg_iconst (v := -1) X dX8_priceTogether_28 (by decide) ?_
          have hq := Kr _ (sm_inj h).symm
          exact wg_iret X ⟨hq, rfl, rfl⟩ hr dX8_priceTogether_29
set_option maxHeartbeats 4000000 in
set_option maxRecDepth 100000 in
theorem c_X8_priceTogether (l : Launch) (E : wg_Ev) (ad : Nat → Nat) (S : wg_Sh) (hS : wg_SC S) (N : Nat) (C : wg_C) (M : wg_M) (p1 : Int32)  {r0 : Int32} (h : f_X8_priceTogether N C p1 = some r0) : wg_Ci l yX8_priceTogether cX8_priceTogether 4 (some .int) 1 21 E ad S C M [.ref (ad 0), .int p1] r0 C M := by
  refine wg_start (own := RX8) (by decide +kernel) rfl (Nat.le_of_ble_eq_true rfl) ?_
  intro p e s m below meth c X hr hnm
  refine wg_lv (lv' := [(0, .ref (ad 0)), (1, .int p1)]) rfl ?_
  unfold f_X8_priceTogether at h
  refine wg_iconst (v := 0) X dX8_priceTogether_0 (by decide) ?_
  refine wg_istore_n (lv' := [(2, .int (0 : Int32)), (0, .ref (ad 0)), (1, .int p1)]) X dX8_priceTogether_1 rfl rfl (by decide) rfl ?_
  refine wg_iconst (v := 0) X dX8_priceTogether_2 (by decide) ?_
  refine wg_istore_n (lv' := [(3, .int (0 : Int32)), (2, .int (0 : Int32)), (0, .ref (ad 0)), (1, .int p1)]) X dX8_priceTogether_3 rfl rfl (by decide) rfl ?_
  obtain ⟨o16, h17, h⟩ := bs2_o h
  refine wg_pick [2, 3, 1, 0] (lv' := [(0, .ref (ad 0)), (1, .int p1), (2, .int (0 : Int32)), (3, .int (0 : Int32))]) rfl ?_
  refine L_X8_priceTogether_l4 X hr hS r0 M N  C  p1  N (0 : Int32) (0 : Int32) o16 h17 (fun v14 v15 e19 => ?_) (fun q18 e19 => ?_)
  · subst e19
    replace h := bs2_in h
    refine wg_iload_n X 2 dX8_priceTogether_45 rfl rfl ?_
    exact wg_iret X ⟨(sm_inj h), rfl, rfl⟩ hr dX8_priceTogether_46
  · subst e19
    replace h := bs2_r h
    exact sm_inj h
-- WindowsGive.digitsOf(I)I ('i',)
def f_X8_digitsOf_l4 (N : Nat)  (x0 : Int32) (x1 : Int32) (x2 : Int32) : Option ((Int32 × Int32) ⊕ (Int32 × Int32)) :=
  if (8 : Int32) ≤ x2 then (
    some (.inr (x1, x2)))
  else (
    bd (f_X8_holds x0 x2) fun r3 =>
    if r3 = 0 then (
      lt_ (x2 + (1 : Int32)) fun v5 =>
      some (.inl (x1, v5)))
    else (
      lt_ (((x1 * (10 : Int32)) + x2) + (1 : Int32)) fun v7 =>
      lt_ (x2 + (1 : Int32)) fun v9 =>
      some (.inl (v7, v9))))
def f_X8_digitsOf (N : Nat) (p0 : Int32) : Option Int32 :=
  bd2 (lp (fun o => f_X8_digitsOf_l4 N  p0 o.1 o.2) N ((0 : Int32), (0 : Int32))) fun v11 v12 =>
  some v11
abbrev G_X8_digitsOf (p : Program) (l : Launch) (e : Env) (s : State) (m : MethodId) (args : Array Value) (below : List Frame) (meth : Method) (c : Code) (E : wg_Ev) (ad : Nat → Nat) (S : wg_Sh) (r0 : Int32) (C0 : wg_C) (M0 : wg_M) (pc : Nat) (C : wg_C) (M : wg_M) (lv : List (Nat × Value)) (st : List Value) : Prop := wg_G p l e (wg_Rm 1 21) s m args below meth c (MQ below (wg_Qi E ad S r0 C0 M0) args s 0 0 (wg_A E)) 3 E ad S 0 0 pc C M lv st
set_option maxHeartbeats 4000000 in
set_option maxRecDepth 100000 in
theorem L_X8_digitsOf_l4 {p : Program} {l : Launch} {e : Env} {s : State} {m : MethodId} {args : Array Value} {below : List Frame} {meth : Method} {c : Code} {E : wg_Ev} {ad : Nat → Nat} {S : wg_Sh} (X : wg_X p s m args meth c cX8_digitsOf 3 RX8 E) (hr : meth.sig.returnType = (some .int)) (r0 : Int32) (C : wg_C) (M : wg_M) (N : Nat)   (x0 : Int32)  : ∀ (n : Nat) (x1 : Int32) (x2 : Int32) (o : (Int32 × Int32)), lp (fun o => f_X8_digitsOf_l4 N  x0 o.1 o.2) n (x1, x2) = some o → (∀ (y1 : Int32) (y2 : Int32), o = (y1, y2) → G_X8_digitsOf p l e s m args below meth c E ad S r0 C M 33 C M [(0, .int x0), (1, .int y1), (2, .int y2)] []) → G_X8_digitsOf p l e s m args below meth c E ad S r0 C M 4 C M [(0, .int x0), (1, .int x1), (2, .int x2)] [] := by
  intro n
  induction n with
  | zero => exact fun _ _ o h => (lp_zero h).elim
  | succ n ih =>
    intro x1 x2 o h K
    obtain ⟨o1, hb, h2⟩ := lp_some h
    replace hb : f_X8_digitsOf_l4 N  x0 x1 x2 = some o1 := hb
    clear h
    have Kc : ∀ (y1 : Int32) (y2 : Int32), o1 = Sum.inl (y1, y2) → G_X8_digitsOf p l e s m args below meth c E ad S r0 C M 4 C M [(0, .int x0), (1, .int y1), (2, .int y2)] [] := fun y1 y2 e1 => by
      subst e1
      exact ih y1 y2 o h2 K
    have Ke : ∀ (y1 : Int32) (y2 : Int32), o1 = Sum.inr ((y1, y2)) → G_X8_digitsOf p l e s m args below meth c E ad S r0 C M 33 C M [(0, .int x0), (1, .int y1), (2, .int y2)] [] := fun y1 y2 e1 => by
      subst e1
      exact K y1 y2 (sm_inj (α := (Int32 × Int32)) h2).symm
    clear ih K h2
    unfold f_X8_digitsOf_l4 at hb
    have h := hb
    clear hb
    refine wg_iload_n X 2 dX8_digitsOf_4 rfl rfl ?_
    refine wg_bipush (v := 8) X dX8_digitsOf_5 (by decide) ?_
    refine wg_icmp_ge X 33 dX8_digitsOf_7 (by decide) (fun c1 => ?_) (fun c1 => ?_)
    · have h := if_t c1 h
      exact Ke x1 x2 (sm_inj h).symm
    · have h := if_f c1 h
      refine wg_iload_n X 0 dX8_digitsOf_10 rfl rfl ?_
      refine wg_iload_n X 2 dX8_digitsOf_11 rfl rfl ?_
      obtain ⟨r3, h2, h⟩ := bd_some h
      refine wg_callSi (As := [.int x0, .int x2]) (rest := []) X (c_X8_holds l E ad S C M x0 x2  h2) T_yX8_holds k_789 dX8_digitsOf_12 rfl rfl (Nat.le_of_ble_eq_true rfl) ⟨Nat.le_of_ble_eq_true rfl, Nat.le_of_ble_eq_true rfl⟩ ⟨Nat.zero_le _, Nat.zero_le _⟩ ?_
      refine wg_if_eq X 27 dX8_digitsOf_15 (by decide) (fun c4 => ?_) (fun c4 => ?_)
      · have h := if_t c4 h
        obtain ⟨v5, e6, h⟩ := lt_some h
        refine wg_iinc (lv' := [(2, .int v5), (0, .int x0), (1, .int x1)]) X 2 dX8_digitsOf_27 rfl e6 (by decide) rfl ?_
        refine wg_goto X 4 dX8_digitsOf_30 (by decide) ?_
        refine wg_pick [1, 2, 0] (lv' := [(0, .int x0), (1, .int x1), (2, .int v5)]) rfl ?_
        exact Kc x1 v5 (sm_inj h).symm
      · have h := if_f c4 h
        refine wg_iload_n X 1 dX8_digitsOf_18 rfl rfl ?_
        refine wg_bipush (v := 10) X dX8_digitsOf_19 (by decide) ?_
        refine wg_imul X dX8_digitsOf_21 ?_
        refine wg_iload_n X 2 dX8_digitsOf_22 rfl rfl ?_
        refine wg_iadd X dX8_digitsOf_23 ?_
        refine wg_iconst (v := 1) X dX8_digitsOf_24 (by decide) ?_
        refine wg_iadd X dX8_digitsOf_25 ?_
        obtain ⟨v7, e8, h⟩ := lt_some h
        refine wg_istore_n (lv' := [(1, .int v7), (0, .int x0), (2, .int x2)]) X dX8_digitsOf_26 rfl e8 (by decide) rfl ?_
        obtain ⟨v9, e10, h⟩ := lt_some h
        refine wg_iinc (lv' := [(2, .int v9), (1, .int v7), (0, .int x0)]) X 2 dX8_digitsOf_27 rfl e10 (by decide) rfl ?_
        refine wg_goto X 4 dX8_digitsOf_30 (by decide) ?_
        refine wg_pick [2, 1, 0] (lv' := [(0, .int x0), (1, .int v7), (2, .int v9)]) rfl ?_
        exact Kc v7 v9 (sm_inj h).symm
set_option maxHeartbeats 4000000 in
set_option maxRecDepth 100000 in
theorem c_X8_digitsOf (l : Launch) (E : wg_Ev) (ad : Nat → Nat) (S : wg_Sh) (N : Nat) (C : wg_C) (M : wg_M) (p0 : Int32)  {r0 : Int32} (h : f_X8_digitsOf N p0 = some r0) : wg_Ci l yX8_digitsOf cX8_digitsOf 3 (some .int) 1 21 E ad S C M [.int p0] r0 C M := by
  refine wg_start (own := RX8) (by decide +kernel) rfl (Nat.le_of_ble_eq_true rfl) ?_
  intro p e s m below meth c X hr hnm
  refine wg_lv (lv' := [(0, .int p0)]) rfl ?_
  unfold f_X8_digitsOf at h
  refine wg_iconst (v := 0) X dX8_digitsOf_0 (by decide) ?_
  refine wg_istore_n (lv' := [(1, .int (0 : Int32)), (0, .int p0)]) X dX8_digitsOf_1 rfl rfl (by decide) rfl ?_
  refine wg_iconst (v := 0) X dX8_digitsOf_2 (by decide) ?_
  refine wg_istore_n (lv' := [(2, .int (0 : Int32)), (1, .int (0 : Int32)), (0, .int p0)]) X dX8_digitsOf_3 rfl rfl (by decide) rfl ?_
  obtain ⟨o13, h14, h⟩ := bd2_o h
  refine wg_pick [2, 1, 0] (lv' := [(0, .int p0), (1, .int (0 : Int32)), (2, .int (0 : Int32))]) rfl ?_
  refine L_X8_digitsOf_l4 X hr r0 C M N   p0  N (0 : Int32) (0 : Int32) o13 h14 (fun v11 v12 e16 => ?_)
  · subst e16
    replace h := bd2_in h
    refine wg_iload_n X 1 dX8_digitsOf_33 rfl rfl ?_
    exact wg_iret X ⟨(sm_inj h), rfl, rfl⟩ hr dX8_digitsOf_34
-- WindowsGive.views(III)I (('c', 0), 'i', 'i', 'i')
def f_X8_views_j68l44 (N : Nat) (S : wg_Sh) (C : wg_C)  (x2 : Int32) (x3 : Int32) (x4 : Int32) (x5 : Int32) (x6 : Int32) (s0 : Int32) : Option ((Int32 × Int32 × Int32) ⊕ (Int32 × Int32 × Int32)) :=
  if s0 ≤ x4 then (
    lt_ (x6 + (-1 : Int32)) fun v15 =>
    some (.inl (x4, x5, v15)))
  else (
    lt_ (x6 + (-1 : Int32)) fun v17 =>
    some (.inl (s0, x6, v17)))
def f_X8_views_l44 (N : Nat) (S : wg_Sh) (C : wg_C)  (x2 : Int32) (x3 : Int32) (x4 : Int32) (x5 : Int32) (x6 : Int32) : Option ((Int32 × Int32 × Int32) ⊕ (Int32 × Int32 × Int32)) :=
  if x6 < 0 then (
    some (.inr (x4, x5, x6)))
  else (
    bd (f_J6_bitCount_0f7a4 x6) fun r12 =>
    if r12 = x2 then (
      bd (f_X8_priceTogether N C x6) fun r20 =>
      f_X8_views_j68l44 N S C  x2 x3 x4 x5 x6 r20)
    else (
      f_X8_views_j68l44 N S C  x2 x3 x4 x5 x6 (-1 : Int32)))
def f_X8_views (N : Nat) (S : wg_Sh) (C : wg_C) (p1 : Int32) (p2 : Int32) (p3 : Int32) : Option (Int32 × wg_C) :=
  bd (f_X8_isDay p1) fun r2 =>
  if r2 = 0 then (
    some ((-2 : Int32), C))
  else (
    if p2 < 0 then (
      some ((-2 : Int32), C))
    else (
      if (4 : Int32) < p2 then (
        some ((-2 : Int32), C))
      else (
        if p3 < 0 then (
          some ((-2 : Int32), C))
        else (
          if p3 ≤ (1 : Int32) then (
            bd (f_X8_fillPrices N S C p1) fun C9 =>
            bd3 (lp (fun o => f_X8_views_l44 N S C9  p2 p3 o.1 o.2.1 o.2.2) N ((-1 : Int32), (0 : Int32), (255 : Int32))) fun v21 v22 v23 =>
            if p3 = 0 then (
              some (v21, C9))
            else (
              if v21 = (-1 : Int32) then (
                some (v21, C9))
              else (
                bd (f_X8_digitsOf N v22) fun r31 =>
                some (r31, C9))))
          else (
            some ((-2 : Int32), C))))))
abbrev G_X8_views (p : Program) (l : Launch) (e : Env) (s : State) (m : MethodId) (args : Array Value) (below : List Frame) (meth : Method) (c : Code) (E : wg_Ev) (ad : Nat → Nat) (S : wg_Sh) (r0 : Int32) (C0 : wg_C) (M0 : wg_M) (pc : Nat) (C : wg_C) (M : wg_M) (lv : List (Nat × Value)) (st : List Value) : Prop := wg_G p l e (wg_Rm 5 119) s m args below meth c (MQ below (wg_Qi E ad S r0 C0 M0) args s 0 0 (wg_A E)) 8 E ad S 0 0 pc C M lv st
set_option maxHeartbeats 4000000 in
set_option maxRecDepth 100000 in
theorem J_X8_views_j68l44 {p : Program} {l : Launch} {e : Env} {s : State} {m : MethodId} {args : Array Value} {below : List Frame} {meth : Method} {c : Code} {E : wg_Ev} {ad : Nat → Nat} {S : wg_Sh} (X : wg_X p s m args meth c cX8_views 8 RX8 E) (hr : meth.sig.returnType = (some .int)) (hS : wg_SC S) (r0 : Int32) (D0 : wg_C) (M : wg_M) (N : Nat)  (C : wg_C)  (x2 : Int32) (x3 : Int32) (x4 : Int32) (x5 : Int32) (x6 : Int32) (s0 : Int32)  (y : ((Int32 × Int32 × Int32) ⊕ (Int32 × Int32 × Int32))) (Kc : ∀ (y4 : Int32) (y5 : Int32) (y6 : Int32), y = Sum.inl (y4, y5, y6) → G_X8_views p l e s m args below meth c E ad S r0 D0 M 44 C M [(0, .ref (ad 0)), (2, .int x2), (3, .int x3), (4, .int y4), (5, .int y5), (6, .int y6)] []) (Ke : ∀ (y4 : Int32) (y5 : Int32) (y6 : Int32), y = Sum.inr ((y4, y5, y6)) → G_X8_views p l e s m args below meth c E ad S r0 D0 M 91 C M [(0, .ref (ad 0)), (2, .int x2), (3, .int x3), (4, .int y4), (5, .int y5), (6, .int y6)] []) (h : f_X8_views_j68l44 N S C  x2 x3 x4 x5 x6 s0 = some y) : G_X8_views p l e s m args below meth c E ad S r0 D0 M 68 C M [(0, .ref (ad 0)), (2, .int x2), (3, .int x3), (4, .int x4), (5, .int x5), (6, .int x6)] [.int s0] := by
  unfold f_X8_views_j68l44 at h
  refine wg_istore (lv' := [(7, .int s0), (0, .ref (ad 0)), (2, .int x2), (3, .int x3), (4, .int x4), (5, .int x5), (6, .int x6)]) X dX8_views_68 rfl (by decide) rfl ?_
  refine wg_iload X 0 dX8_views_70 rfl ?_
  refine wg_iload X 4 dX8_views_72 rfl ?_
  refine wg_icmp_le X 85 dX8_views_74 (by decide) (fun c14 => ?_) (fun c14 => ?_)
  · have h := if_t c14 h
    obtain ⟨v15, e16, h⟩ := lt_some h
    refine wg_iinc (lv' := [(6, .int v15), (7, .int s0), (0, .ref (ad 0)), (2, .int x2), (3, .int x3), (4, .int x4), (5, .int x5)]) X 6 dX8_views_85 rfl e16 (by decide) rfl ?_
    refine wg_goto X 44 dX8_views_88 (by decide) ?_
    refine wg_pick [2, 3, 4, 5, 6, 0] (lv' := [(0, .ref (ad 0)), (2, .int x2), (3, .int x3), (4, .int x4), (5, .int x5), (6, .int v15)]) rfl ?_
    exact Kc x4 x5 v15 (sm_inj h).symm
  · have h := if_f c14 h
    refine wg_iload X 0 dX8_views_77 rfl ?_
    refine wg_istore (lv' := [(4, .int s0), (7, .int s0), (0, .ref (ad 0)), (2, .int x2), (3, .int x3), (5, .int x5), (6, .int x6)]) X dX8_views_79 rfl (by decide) rfl ?_
    refine wg_iload X 6 dX8_views_81 rfl ?_
    refine wg_istore (lv' := [(5, .int x6), (4, .int s0), (7, .int s0), (0, .ref (ad 0)), (2, .int x2), (3, .int x3), (6, .int x6)]) X dX8_views_83 rfl (by decide) rfl ?_
    obtain ⟨v17, e18, h⟩ := lt_some h
    refine wg_iinc (lv' := [(6, .int v17), (5, .int x6), (4, .int s0), (7, .int s0), (0, .ref (ad 0)), (2, .int x2), (3, .int x3)]) X 6 dX8_views_85 rfl e18 (by decide) rfl ?_
    refine wg_goto X 44 dX8_views_88 (by decide) ?_
    refine wg_pick [4, 5, 6, 2, 1, 0] (lv' := [(0, .ref (ad 0)), (2, .int x2), (3, .int x3), (4, .int s0), (5, .int x6), (6, .int v17)]) rfl ?_
    exact Kc s0 x6 v17 (sm_inj h).symm
set_option maxHeartbeats 4000000 in
set_option maxRecDepth 100000 in
theorem L_X8_views_l44 {p : Program} {l : Launch} {e : Env} {s : State} {m : MethodId} {args : Array Value} {below : List Frame} {meth : Method} {c : Code} {E : wg_Ev} {ad : Nat → Nat} {S : wg_Sh} (X : wg_X p s m args meth c cX8_views 8 RX8 E) (hr : meth.sig.returnType = (some .int)) (hS : wg_SC S) (r0 : Int32) (D0 : wg_C) (M : wg_M) (N : Nat)  (C : wg_C)  (x2 : Int32) (x3 : Int32)  : ∀ (n : Nat) (x4 : Int32) (x5 : Int32) (x6 : Int32) (o : (Int32 × Int32 × Int32)), lp (fun o => f_X8_views_l44 N S C  x2 x3 o.1 o.2.1 o.2.2) n (x4, x5, x6) = some o → (∀ (y4 : Int32) (y5 : Int32) (y6 : Int32), o = (y4, y5, y6) → G_X8_views p l e s m args below meth c E ad S r0 D0 M 91 C M [(0, .ref (ad 0)), (2, .int x2), (3, .int x3), (4, .int y4), (5, .int y5), (6, .int y6)] []) → G_X8_views p l e s m args below meth c E ad S r0 D0 M 44 C M [(0, .ref (ad 0)), (2, .int x2), (3, .int x3), (4, .int x4), (5, .int x5), (6, .int x6)] [] := by
  intro n
  induction n with
  | zero => exact fun _ _ _ o h => (lp_zero h).elim
  | succ n ih =>
    intro x4 x5 x6 o h K
    obtain ⟨o1, hb, h2⟩ := lp_some h
    replace hb : f_X8_views_l44 N S C  x2 x3 x4 x5 x6 = some o1 := hb
    clear h
    have Kc : ∀ (y4 : Int32) (y5 : Int32) (y6 : Int32), o1 = Sum.inl (y4, y5, y6) → G_X8_views p l e s m args below meth c E ad S r0 D0 M 44 C M [(0, .ref (ad 0)), (2, .int x2), (3, .int x3), (4, .int y4), (5, .int y5), (6, .int y6)] [] := fun y4 y5 y6 e1 => by
      subst e1
      exact ih y4 y5 y6 o h2 K
    have Ke : ∀ (y4 : Int32) (y5 : Int32) (y6 : Int32), o1 = Sum.inr ((y4, y5, y6)) → G_X8_views p l e s m args below meth c E ad S r0 D0 M 91 C M [(0, .ref (ad 0)), (2, .int x2), (3, .int x3), (4, .int y4), (5, .int y5), (6, .int y6)] [] := fun y4 y5 y6 e1 => by
      subst e1
      exact K y4 y5 y6 (sm_inj (α := (Int32 × Int32 × Int32)) h2).symm
    clear ih K h2
    unfold f_X8_views_l44 at hb
    have h := hb
    clear hb
    refine wg_iload X 5 dX8_views_44 rfl ?_
    refine wg_if_lt X 91 dX8_views_46 (by decide) (fun c10 => ?_) (fun c10 => ?_)
    · have h := if_t c10 h
      exact Ke x4 x5 x6 (sm_inj h).symm
    · have h := if_f c10 h
      refine wg_iload X 5 dX8_views_49 rfl ?_
      obtain ⟨r12, h11, h⟩ := bd_some h
      refine wg_callSi (As := [.int x6]) (rest := []) X (c_J6_bitCount_0f7a4 l E ad S C M x6  h11) T_yJ6_bitCount_0f7a4 k_693 dX8_views_51 rfl rfl (Nat.le_of_ble_eq_true rfl) ⟨Nat.le_of_ble_eq_true rfl, Nat.le_of_ble_eq_true rfl⟩ ⟨Nat.zero_le _, Nat.zero_le _⟩ ?_
      refine wg_iload_n X 1 dX8_views_54 rfl rfl ?_
      refine wg_icmp_ne X 67 dX8_views_55 (by decide) (fun c13 => ?_) (fun c13 => ?_)
      · have h := if_f c13 h
        refine wg_iconst (v := -1) X dX8_views_67 (by decide) ?_
        exact J_X8_views_j68l44 X hr hS r0 D0 M N  C  x2 x3 x4 x5 x6 (-1 : Int32)  _ Kc Ke h
      · have h := if_t c13 h
        refine wg_aload_n X 0 dX8_views_58 rfl rfl ?_
        refine wg_iload X 5 dX8_views_59 rfl ?_
        obtain ⟨r20, h19, h⟩ := bd_some h
        refine wg_callVi (As := [.int x6]) (rest := []) X (c_X8_priceTogether l E ad S hS N C M x6  h19) T_yX8_priceTogether k_785 cl8 (SCi hS 0 8 rfl) dX8_views_61 rfl rfl (Nat.le_of_ble_eq_true rfl) ⟨Nat.le_of_ble_eq_true rfl, Nat.le_of_ble_eq_true rfl⟩ ⟨Nat.zero_le _, Nat.zero_le _⟩ ?_
        refine wg_goto X 68 dX8_views_64 (by decide) ?_
        exact J_X8_views_j68l44 X hr hS r0 D0 M N  C  x2 x3 x4 x5 x6 r20  _ Kc Ke h
set_option maxHeartbeats 4000000 in
set_option maxRecDepth 100000 in
theorem c_X8_views (l : Launch) (E : wg_Ev) (ad : Nat → Nat) (S : wg_Sh) (hS : wg_SC S) (N : Nat) (C : wg_C) (M : wg_M) (p1 : Int32) (p2 : Int32) (p3 : Int32)  {r0 : Int32} {D0 : wg_C} (h : f_X8_views N S C p1 p2 p3 = some (r0, D0)) : wg_Ci l yX8_views cX8_views 8 (some .int) 5 119 E ad S C M [.ref (ad 0), .int p1, .int p2, .int p3] r0 D0 M := by
  refine wg_start (own := RX8) (by decide +kernel) rfl (Nat.le_of_ble_eq_true rfl) ?_
  intro p e s m below meth c X hr hnm
  refine wg_lv (lv' := [(0, .ref (ad 0)), (1, .int p1), (2, .int p2), (3, .int p3)]) rfl ?_
  unfold f_X8_views at h
  refine wg_iload_n X 1 dX8_views_0 rfl rfl ?_
  obtain ⟨r2, h1, h⟩ := bd_some h
  refine wg_callSi (As := [.int p1]) (rest := []) X (c_X8_isDay l E ad S C M p1  h1) T_yX8_isDay k_517 dX8_views_1 rfl rfl (Nat.le_of_ble_eq_true rfl) ⟨Nat.le_of_ble_eq_true rfl, Nat.le_of_ble_eq_true rfl⟩ ⟨Nat.zero_le _, Nat.zero_le _⟩ ?_
  refine wg_if_eq X 25 dX8_views_4 (by decide) (fun c3 => ?_) (fun c3 => ?_)
  · have h := if_t c3 h
    refine wg_bipush (v := -2) X dX8_views_25 (by decide) ?_
    exact wg_iret X ⟨(Prod.mk.inj (sm_inj h)).1, (Prod.mk.inj (sm_inj h)).2, rfl⟩ hr dX8_views_27
  · have h := if_f c3 h
    refine wg_iload_n X 2 dX8_views_7 rfl rfl ?_
    refine wg_if_lt X 25 dX8_views_8 (by decide) (fun c4 => ?_) (fun c4 => ?_)
    · have h := if_t c4 h
      refine wg_bipush (v := -2) X dX8_views_25 (by decide) ?_
      exact wg_iret X ⟨(Prod.mk.inj (sm_inj h)).1, (Prod.mk.inj (sm_inj h)).2, rfl⟩ hr dX8_views_27
    · have h := if_f c4 h
      refine wg_iload_n X 2 dX8_views_11 rfl rfl ?_
      refine wg_iconst (v := 4) X dX8_views_12 (by decide) ?_
      refine wg_icmp_gt X 25 dX8_views_13 (by decide) (fun c5 => ?_) (fun c5 => ?_)
      · have h := if_t c5 h
        refine wg_bipush (v := -2) X dX8_views_25 (by decide) ?_
        exact wg_iret X ⟨(Prod.mk.inj (sm_inj h)).1, (Prod.mk.inj (sm_inj h)).2, rfl⟩ hr dX8_views_27
      · have h := if_f c5 h
        refine wg_iload_n X 3 dX8_views_16 rfl rfl ?_
        refine wg_if_lt X 25 dX8_views_17 (by decide) (fun c6 => ?_) (fun c6 => ?_)
        · have h := if_t c6 h
          refine wg_bipush (v := -2) X dX8_views_25 (by decide) ?_
          exact wg_iret X ⟨(Prod.mk.inj (sm_inj h)).1, (Prod.mk.inj (sm_inj h)).2, rfl⟩ hr dX8_views_27
        · have h := if_f c6 h
          refine wg_iload_n X 3 dX8_views_20 rfl rfl ?_
          refine wg_iconst (v := 1) X dX8_views_21 (by decide) ?_
          refine wg_icmp_le X 28 dX8_views_22 (by decide) (fun c7 => ?_) (fun c7 => ?_)
          · have h := if_t c7 h
            refine wg_aload_n X 0 dX8_views_28 rfl rfl ?_
            refine wg_iload_n X 1 dX8_views_29 rfl rfl ?_
            obtain ⟨C9, h8, h⟩ := bd_some h
            refine wg_callVv (As := [.int p1]) (rest := []) X (c_X8_fillPrices l E ad S hS N C M p1  h8) T_yX8_fillPrices k_781 cl8 (SCi hS 0 8 rfl) dX8_views_30 rfl rfl (Nat.le_of_ble_eq_true rfl) ⟨Nat.le_of_ble_eq_true rfl, Nat.le_of_ble_eq_true rfl⟩ ⟨Nat.zero_le _, Nat.zero_le _⟩ ?_
            refine wg_iconst (v := -1) X dX8_views_33 (by decide) ?_
            refine wg_istore (lv' := [(4, .int (-1 : Int32)), (0, .ref (ad 0)), (1, .int p1), (2, .int p2), (3, .int p3)]) X dX8_views_34 rfl (by decide) rfl ?_
            refine wg_iconst (v := 0) X dX8_views_36 (by decide) ?_
            refine wg_istore (lv' := [(5, .int (0 : Int32)), (4, .int (-1 : Int32)), (0, .ref (ad 0)), (1, .int p1), (2, .int p2), (3, .int p3)]) X dX8_views_37 rfl (by decide) rfl ?_
            refine wg_sipush (v := 255) X dX8_views_39 (by decide) ?_
            refine wg_istore (lv' := [(6, .int (255 : Int32)), (5, .int (0 : Int32)), (4, .int (-1 : Int32)), (0, .ref (ad 0)), (1, .int p1), (2, .int p2), (3, .int p3)]) X dX8_views_42 rfl (by decide) rfl ?_
            obtain ⟨o24, h25, h⟩ := bd3_o h
            refine wg_pick [3, 5, 6, 2, 1, 0] (lv' := [(0, .ref (ad 0)), (2, .int p2), (3, .int p3), (4, .int (-1 : Int32)), (5, .int (0 : Int32)), (6, .int (255 : Int32))]) rfl ?_
            refine L_X8_views_l44 X hr hS r0 D0 M N  C9  p2 p3  N (-1 : Int32) (0 : Int32) (255 : Int32) o24 h25 (fun v21 v22 v23 e27 => ?_)
            · subst e27
              replace h := bd3_in h
              refine wg_iload_n X 2 dX8_views_91 rfl rfl ?_
              refine wg_if_eq X 101 dX8_views_92 (by decide) (fun c28 => ?_) (fun c28 => ?_)
              · have h := if_t c28 h
                refine wg_iload X 3 dX8_views_101 rfl ?_
                refine wg_goto X 111 dX8_views_103 (by decide) ?_
                exact wg_iret X ⟨(Prod.mk.inj (sm_inj h)).1, (Prod.mk.inj (sm_inj h)).2, rfl⟩ hr dX8_views_111
              · have h := if_f c28 h
                refine wg_iload X 3 dX8_views_95 rfl ?_
                refine wg_iconst (v := -1) X dX8_views_97 (by decide) ?_
                refine wg_icmp_ne X 106 dX8_views_98 (by decide) (fun c29 => ?_) (fun c29 => ?_)
                · have h := if_f c29 h
                  refine wg_iload X 4 dX8_views_106 rfl ?_
                  obtain ⟨r31, h30, h⟩ := bd_some h
                  refine wg_callSi (As := [.int v22]) (rest := []) X (c_X8_digitsOf l E ad S N C9 M v22  h30) T_yX8_digitsOf k_792 dX8_views_108 rfl rfl (Nat.le_of_ble_eq_true rfl) ⟨Nat.le_of_ble_eq_true rfl, Nat.le_of_ble_eq_true rfl⟩ ⟨Nat.zero_le _, Nat.zero_le _⟩ ?_
                  exact wg_iret X ⟨(Prod.mk.inj (sm_inj h)).1, (Prod.mk.inj (sm_inj h)).2, rfl⟩ hr dX8_views_111
                · have h := if_t c29 h
                  refine wg_iload X 3 dX8_views_101 rfl ?_
                  refine wg_goto X 111 dX8_views_103 (by decide) ?_
                  exact wg_iret X ⟨(Prod.mk.inj (sm_inj h)).1, (Prod.mk.inj (sm_inj h)).2, rfl⟩ hr dX8_views_111
          · have h := if_f c7 h
            refine wg_bipush (v := -2) X dX8_views_25 (by decide) ?_
            exact wg_iret X ⟨(Prod.mk.inj (sm_inj h)).1, (Prod.mk.inj (sm_inj h)).2, rfl⟩ hr dX8_views_27
-- WindowsGive.drawnWater(II)I (('c', 0), 'i', 'i')
def f_X8_drawnWater_l5 (N : Nat) (S : wg_Sh)  (x1 : Int32) (C : wg_C) (x3 : Int32) (x4 : Int32) : Option ((wg_C × Int32 × Int32) ⊕ (wg_C × Int32 × Int32)) :=
  if (32 : Int32) ≤ x4 then (
    some (.inr (C, x3, x4)))
  else (
    lt_ ((x3 * (1103515245 : Int32)) + (12345 : Int32)) fun v2 =>
    ck (inb x4 32) <|
    lt_ (wg_up C 42 x4.toNatClampNeg (((v2.toUInt32 >>> ((9 : Int32).toUInt32 &&& Int32.toUInt32 31)).toInt32) - ((v2.toUInt32 >>> ((9 : Int32).toUInt32 &&& Int32.toUInt32 31)).toInt32) / (10 : Int32) * (10 : Int32))) fun C5 =>
    lt_ (x4 + (1 : Int32)) fun v7 =>
    some (.inl (C5, v2, v7)))
def f_X8_drawnWater (N : Nat) (S : wg_Sh) (C : wg_C) (p1 : Int32) (p2 : Int32) : Option (Int32 × wg_C) :=
  bd3 (lp (fun o => f_X8_drawnWater_l5 N S  p1 o.1 o.2.1 o.2.2) N (C, p2, (0 : Int32))) fun C9 v10 v11 =>
  bd2 (f_X8_flood N S C9 p1 42 32) fun r17 C18 =>
  some (r17, C18)
abbrev G_X8_drawnWater (p : Program) (l : Launch) (e : Env) (s : State) (m : MethodId) (args : Array Value) (below : List Frame) (meth : Method) (c : Code) (E : wg_Ev) (ad : Nat → Nat) (S : wg_Sh) (r0 : Int32) (C0 : wg_C) (M0 : wg_M) (pc : Nat) (C : wg_C) (M : wg_M) (lv : List (Nat × Value)) (st : List Value) : Prop := wg_G p l e (wg_Rm 5 123) s m args below meth c (MQ below (wg_Qi E ad S r0 C0 M0) args s 0 0 (wg_A E)) 5 E ad S 0 0 pc C M lv st
set_option maxHeartbeats 4000000 in
set_option maxRecDepth 100000 in
theorem L_X8_drawnWater_l5 {p : Program} {l : Launch} {e : Env} {s : State} {m : MethodId} {args : Array Value} {below : List Frame} {meth : Method} {c : Code} {E : wg_Ev} {ad : Nat → Nat} {S : wg_Sh} (X : wg_X p s m args meth c cX8_drawnWater 5 RX8 E) (hr : meth.sig.returnType = (some .int)) (hS : wg_SC S) (r0 : Int32) (D0 : wg_C) (M : wg_M) (N : Nat)   (x1 : Int32)  : ∀ (n : Nat) (C : wg_C) (x3 : Int32) (x4 : Int32) (o : (wg_C × Int32 × Int32)), lp (fun o => f_X8_drawnWater_l5 N S  x1 o.1 o.2.1 o.2.2) n (C, x3, x4) = some o → (∀ (Dy : wg_C) (y3 : Int32) (y4 : Int32), o = (Dy, y3, y4) → G_X8_drawnWater p l e s m args below meth c E ad S r0 D0 M 42 Dy M [(0, .ref (ad 0)), (1, .int x1), (3, .int y3), (4, .int y4)] []) → G_X8_drawnWater p l e s m args below meth c E ad S r0 D0 M 5 C M [(0, .ref (ad 0)), (1, .int x1), (3, .int x3), (4, .int x4)] [] := by
  intro n
  induction n with
  | zero => exact fun _ _ _ o h => (lp_zero h).elim
  | succ n ih =>
    intro C x3 x4 o h K
    obtain ⟨o1, hb, h2⟩ := lp_some h
    replace hb : f_X8_drawnWater_l5 N S  x1 C x3 x4 = some o1 := hb
    clear h
    have Kc : ∀ (Dy : wg_C) (y3 : Int32) (y4 : Int32), o1 = Sum.inl (Dy, y3, y4) → G_X8_drawnWater p l e s m args below meth c E ad S r0 D0 M 5 Dy M [(0, .ref (ad 0)), (1, .int x1), (3, .int y3), (4, .int y4)] [] := fun Dy y3 y4 e1 => by
      subst e1
      exact ih Dy y3 y4 o h2 K
    have Ke : ∀ (Dy : wg_C) (y3 : Int32) (y4 : Int32), o1 = Sum.inr ((Dy, y3, y4)) → G_X8_drawnWater p l e s m args below meth c E ad S r0 D0 M 42 Dy M [(0, .ref (ad 0)), (1, .int x1), (3, .int y3), (4, .int y4)] [] := fun Dy y3 y4 e1 => by
      subst e1
      exact K Dy y3 y4 (sm_inj (α := (wg_C × Int32 × Int32)) h2).symm
    clear ih K h2
    unfold f_X8_drawnWater_l5 at hb
    have h := hb
    clear hb
    refine wg_iload X 3 dX8_drawnWater_5 rfl ?_
    refine wg_bipush (v := 32) X dX8_drawnWater_7 (by decide) ?_
    refine wg_icmp_ge X 42 dX8_drawnWater_9 (by decide) (fun c1 => ?_) (fun c1 => ?_)
    · have h := if_t c1 h
      exact Ke C x3 x4 (sm_inj h).symm
    · have h := if_f c1 h
      refine wg_iload_n X 2 dX8_drawnWater_12 rfl rfl ?_
      refine wg_ldcw (v := 1103515245) X dX8_drawnWater_13 k_803 ?_
      refine wg_imul X dX8_drawnWater_16 ?_
      refine wg_sipush (v := 12345) X dX8_drawnWater_17 (by decide) ?_
      refine wg_iadd X dX8_drawnWater_20 ?_
      obtain ⟨v2, e3, h⟩ := lt_some h
      refine wg_istore_n (lv' := [(3, .int v2), (0, .ref (ad 0)), (1, .int x1), (4, .int x4)]) X dX8_drawnWater_21 rfl e3 (by decide) rfl ?_
      refine wg_aload_n X 1 dX8_drawnWater_22 rfl rfl ?_
      refine wg_getR (b := 42) X cl8 (SCi hS 0 8 rfl) 10 (by decide) dX8_drawnWater_23 k_482 rfl (SCr hS 0 10 42 rfl) ?_
      refine wg_iload X 3 dX8_drawnWater_26 rfl ?_
      refine wg_iload_n X 0 dX8_drawnWater_28 rfl rfl ?_
      refine wg_bipush (v := 9) X dX8_drawnWater_29 (by decide) ?_
      refine wg_iushr X dX8_drawnWater_31 ?_
      refine wg_bipush (v := 10) X dX8_drawnWater_32 (by decide) ?_
      refine wg_irem X dX8_drawnWater_34 (by decide) ?_
      obtain ⟨z4, h⟩ := ck_some h
      obtain ⟨C5, e6, h⟩ := lt_some h
      refine wg_iaste X (SCi hS 42 10 rfl) (SCl hS 42 32 rfl) z4 dX8_drawnWater_35 e6 ?_
      obtain ⟨v7, e8, h⟩ := lt_some h
      refine wg_iinc (lv' := [(4, .int v7), (3, .int v2), (0, .ref (ad 0)), (1, .int x1)]) X 3 dX8_drawnWater_36 rfl e8 (by decide) rfl ?_
      refine wg_goto X 5 dX8_drawnWater_39 (by decide) ?_
      refine wg_pick [2, 3, 1, 0] (lv' := [(0, .ref (ad 0)), (1, .int x1), (3, .int v2), (4, .int v7)]) rfl ?_
      exact Kc C5 v2 v7 (sm_inj h).symm
set_option maxHeartbeats 4000000 in
set_option maxRecDepth 100000 in
theorem c_X8_drawnWater (l : Launch) (E : wg_Ev) (ad : Nat → Nat) (S : wg_Sh) (hS : wg_SC S) (N : Nat) (C : wg_C) (M : wg_M) (p1 : Int32) (p2 : Int32)  {r0 : Int32} {D0 : wg_C} (h : f_X8_drawnWater N S C p1 p2 = some (r0, D0)) : wg_Ci l yX8_drawnWater cX8_drawnWater 5 (some .int) 5 123 E ad S C M [.ref (ad 0), .int p1, .int p2] r0 D0 M := by
  refine wg_start (own := RX8) (by decide +kernel) rfl (Nat.le_of_ble_eq_true rfl) ?_
  intro p e s m below meth c X hr hnm
  refine wg_lv (lv' := [(0, .ref (ad 0)), (1, .int p1), (2, .int p2)]) rfl ?_
  unfold f_X8_drawnWater at h
  refine wg_iload_n X 2 dX8_drawnWater_0 rfl rfl ?_
  refine wg_istore_n (lv' := [(3, .int p2), (0, .ref (ad 0)), (1, .int p1), (2, .int p2)]) X dX8_drawnWater_1 rfl rfl (by decide) rfl ?_
  refine wg_iconst (v := 0) X dX8_drawnWater_2 (by decide) ?_
  refine wg_istore (lv' := [(4, .int (0 : Int32)), (3, .int p2), (0, .ref (ad 0)), (1, .int p1), (2, .int p2)]) X dX8_drawnWater_3 rfl (by decide) rfl ?_
  obtain ⟨o12, h13, h⟩ := bd3_o h
  refine wg_pick [2, 3, 1, 0] (lv' := [(0, .ref (ad 0)), (1, .int p1), (3, .int p2), (4, .int (0 : Int32))]) rfl ?_
  refine L_X8_drawnWater_l5 X hr hS r0 D0 M N   p1  N C p2 (0 : Int32) o12 h13 (fun C9 v10 v11 e15 => ?_)
  · subst e15
    replace h := bd3_in h
    refine wg_aload_n X 0 dX8_drawnWater_42 rfl rfl ?_
    refine wg_iload_n X 1 dX8_drawnWater_43 rfl rfl ?_
    refine wg_aload_n X 0 dX8_drawnWater_44 rfl rfl ?_
    refine wg_getR (b := 42) X cl8 (SCi hS 0 8 rfl) 10 (by decide) dX8_drawnWater_45 k_482 rfl (SCr hS 0 10 42 rfl) ?_
    obtain ⟨r17, C18, h16, h⟩ := bd2_some h
    refine wg_callVi (As := [.int p1, .ref (ad 42)]) (rest := []) X (c_X8_flood l E ad S hS N C9 M p1 42 32 ⟨(SCi hS 42 10 rfl), (SCl hS 42 32 rfl)⟩ h16) T_yX8_flood k_766 cl8 (SCi hS 0 8 rfl) dX8_drawnWater_48 rfl rfl (Nat.le_of_ble_eq_true rfl) ⟨Nat.le_of_ble_eq_true rfl, Nat.le_of_ble_eq_true rfl⟩ ⟨Nat.zero_le _, Nat.zero_le _⟩ ?_
    exact wg_iret X ⟨(Prod.mk.inj (sm_inj h)).1, (Prod.mk.inj (sm_inj h)).2, rfl⟩ hr dX8_drawnWater_51
-- WindowsGive.drawn(II)I (('c', 0), 'i', 'i')
def f_X8_drawn (N : Nat) (S : wg_Sh) (C : wg_C) (p1 : Int32) (p2 : Int32) : Option (Int32 × wg_C) :=
  bd (f_X8_isRoom p1) fun r2 =>
  if r2 = 0 then (
    some ((-2 : Int32), C))
  else (
    bd2 (f_X8_drawnWater N S C p1 p2) fun r5 C6 =>
    some (r5, C6))
set_option maxHeartbeats 4000000 in
set_option maxRecDepth 100000 in
theorem c_X8_drawn (l : Launch) (E : wg_Ev) (ad : Nat → Nat) (S : wg_Sh) (hS : wg_SC S) (N : Nat) (C : wg_C) (M : wg_M) (p1 : Int32) (p2 : Int32)  {r0 : Int32} {D0 : wg_C} (h : f_X8_drawn N S C p1 p2 = some (r0, D0)) : wg_Ci l yX8_drawn cX8_drawn 3 (some .int) 6 147 E ad S C M [.ref (ad 0), .int p1, .int p2] r0 D0 M := by
  refine wg_start (own := RX8) (by decide +kernel) rfl (Nat.le_of_ble_eq_true rfl) ?_
  intro p e s m below meth c X hr hnm
  refine wg_lv (lv' := [(0, .ref (ad 0)), (1, .int p1), (2, .int p2)]) rfl ?_
  unfold f_X8_drawn at h
  refine wg_iload_n X 1 dX8_drawn_0 rfl rfl ?_
  obtain ⟨r2, h1, h⟩ := bd_some h
  refine wg_callSi (As := [.int p1]) (rest := []) X (c_X8_isRoom l E ad S C M p1  h1) T_yX8_isRoom k_535 dX8_drawn_1 rfl rfl (Nat.le_of_ble_eq_true rfl) ⟨Nat.le_of_ble_eq_true rfl, Nat.le_of_ble_eq_true rfl⟩ ⟨Nat.zero_le _, Nat.zero_le _⟩ ?_
  refine wg_if_ne X 10 dX8_drawn_4 (by decide) (fun c3 => ?_) (fun c3 => ?_)
  · have h := if_f c3 h
    refine wg_aload_n X 0 dX8_drawn_10 rfl rfl ?_
    refine wg_iload_n X 1 dX8_drawn_11 rfl rfl ?_
    refine wg_iload_n X 2 dX8_drawn_12 rfl rfl ?_
    obtain ⟨r5, C6, h4, h⟩ := bd2_some h
    refine wg_callVi (As := [.int p1, .int p2]) (rest := []) X (c_X8_drawnWater l E ad S hS N C M p1 p2  h4) T_yX8_drawnWater k_799 cl8 (SCi hS 0 8 rfl) dX8_drawn_13 rfl rfl (Nat.le_of_ble_eq_true rfl) ⟨Nat.le_of_ble_eq_true rfl, Nat.le_of_ble_eq_true rfl⟩ ⟨Nat.zero_le _, Nat.zero_le _⟩ ?_
    exact wg_iret X ⟨(Prod.mk.inj (sm_inj h)).1, (Prod.mk.inj (sm_inj h)).2, rfl⟩ hr dX8_drawn_16
  · have h := if_t c3 h
    refine wg_bipush (v := -2) X dX8_drawn_7 (by decide) ?_
    exact wg_iret X ⟨(Prod.mk.inj (sm_inj h)).1, (Prod.mk.inj (sm_inj h)).2, rfl⟩ hr dX8_drawn_9
-- WindowsGive.commonDivisor(II)I ('i', 'i')
def f_X8_commonDivisor_l7 (N : Nat)   (x2 : Int32) (x3 : Int32) (x4 : Int32) : Option ((Int32 × Int32 × Int32) ⊕ (Int32 × Int32 × Int32)) :=
  if (64 : Int32) ≤ x4 then (
    some (.inr (x2, x3, x4)))
  else (
    if x3 = 0 then (
      some (.inr (x2, x3, x4)))
    else (
      ck (¬ x3 = 0) <|
      lt_ (x2 - x2 / x3 * x3) fun v4 =>
      lt_ (x4 + (1 : Int32)) fun v6 =>
      some (.inl (x3, v4, v6))))
def f_X8_commonDivisor (N : Nat) (p0 : Int32) (p1 : Int32) : Option Int32 :=
  bd3 (lp (fun o => f_X8_commonDivisor_l7 N   o.1 o.2.1 o.2.2) N (p0, p1, (0 : Int32))) fun v8 v9 v10 =>
  if (1 : Int32) ≤ v8 then (
    some v8)
  else (
    some (1 : Int32))
abbrev G_X8_commonDivisor (p : Program) (l : Launch) (e : Env) (s : State) (m : MethodId) (args : Array Value) (below : List Frame) (meth : Method) (c : Code) (E : wg_Ev) (ad : Nat → Nat) (S : wg_Sh) (r0 : Int32) (C0 : wg_C) (M0 : wg_M) (pc : Nat) (C : wg_C) (M : wg_M) (lv : List (Nat × Value)) (st : List Value) : Prop := wg_G p l e (wg_Rm 0 0) s m args below meth c (MQ below (wg_Qi E ad S r0 C0 M0) args s 0 0 (wg_A E)) 6 E ad S 0 0 pc C M lv st
set_option maxHeartbeats 4000000 in
set_option maxRecDepth 100000 in
theorem L_X8_commonDivisor_l7 {p : Program} {l : Launch} {e : Env} {s : State} {m : MethodId} {args : Array Value} {below : List Frame} {meth : Method} {c : Code} {E : wg_Ev} {ad : Nat → Nat} {S : wg_Sh} (X : wg_X p s m args meth c cX8_commonDivisor 6 RX8 E) (hr : meth.sig.returnType = (some .int)) (r0 : Int32) (C : wg_C) (M : wg_M) (N : Nat)     : ∀ (n : Nat) (x2 : Int32) (x3 : Int32) (x4 : Int32) (o : (Int32 × Int32 × Int32)), lp (fun o => f_X8_commonDivisor_l7 N   o.1 o.2.1 o.2.2) n (x2, x3, x4) = some o → (∀ (y2 : Int32) (y3 : Int32) (y4 : Int32), o = (y2, y3, y4) → G_X8_commonDivisor p l e s m args below meth c E ad S r0 C M 34 C M [(2, .int y2), (3, .int y3), (4, .int y4)] []) → G_X8_commonDivisor p l e s m args below meth c E ad S r0 C M 7 C M [(2, .int x2), (3, .int x3), (4, .int x4)] [] := by
  intro n
  induction n with
  | zero => exact fun _ _ _ o h => (lp_zero h).elim
  | succ n ih =>
    intro x2 x3 x4 o h K
    obtain ⟨o1, hb, h2⟩ := lp_some h
    replace hb : f_X8_commonDivisor_l7 N   x2 x3 x4 = some o1 := hb
    clear h
    have Kc : ∀ (y2 : Int32) (y3 : Int32) (y4 : Int32), o1 = Sum.inl (y2, y3, y4) → G_X8_commonDivisor p l e s m args below meth c E ad S r0 C M 7 C M [(2, .int y2), (3, .int y3), (4, .int y4)] [] := fun y2 y3 y4 e1 => by
      subst e1
      exact ih y2 y3 y4 o h2 K
    have Ke : ∀ (y2 : Int32) (y3 : Int32) (y4 : Int32), o1 = Sum.inr ((y2, y3, y4)) → G_X8_commonDivisor p l e s m args below meth c E ad S r0 C M 34 C M [(2, .int y2), (3, .int y3), (4, .int y4)] [] := fun y2 y3 y4 e1 => by
      subst e1
      exact K y2 y3 y4 (sm_inj (α := (Int32 × Int32 × Int32)) h2).symm
    clear ih K h2
    unfold f_X8_commonDivisor_l7 at hb
    have h := hb
    clear hb
    refine wg_iload X 2 dX8_commonDivisor_7 rfl ?_
    refine wg_bipush (v := 64) X dX8_commonDivisor_9 (by decide) ?_
    refine wg_icmp_ge X 34 dX8_commonDivisor_11 (by decide) (fun c1 => ?_) (fun c1 => ?_)
    · have h := if_t c1 h
      exact Ke x2 x3 x4 (sm_inj h).symm
    · have h := if_f c1 h
      refine wg_iload_n X 1 dX8_commonDivisor_14 rfl rfl ?_
      refine wg_if_eq X 34 dX8_commonDivisor_15 (by decide) (fun c2 => ?_) (fun c2 => ?_)
      · have h := if_t c2 h
        exact Ke x2 x3 x4 (sm_inj h).symm
      · have h := if_f c2 h
        refine wg_iload_n X 0 dX8_commonDivisor_18 rfl rfl ?_
        refine wg_iload_n X 1 dX8_commonDivisor_19 rfl rfl ?_
        obtain ⟨z3, h⟩ := ck_some h
        refine wg_irem X dX8_commonDivisor_20 z3 ?_
        obtain ⟨v4, e5, h⟩ := lt_some h
        refine wg_istore (lv' := [(5, .int v4), (2, .int x2), (3, .int x3), (4, .int x4)]) X dX8_commonDivisor_21 e5 (by decide) rfl ?_
        refine wg_iload_n X 2 dX8_commonDivisor_23 rfl rfl ?_
        refine wg_istore_n (lv' := [(2, .int x3), (5, .int v4), (3, .int x3), (4, .int x4)]) X dX8_commonDivisor_24 rfl rfl (by decide) rfl ?_
        refine wg_iload X 1 dX8_commonDivisor_25 rfl ?_
        refine wg_istore_n (lv' := [(3, .int v4), (2, .int x3), (5, .int v4), (4, .int x4)]) X dX8_commonDivisor_27 rfl rfl (by decide) rfl ?_
        obtain ⟨v6, e7, h⟩ := lt_some h
        refine wg_iinc (lv' := [(4, .int v6), (3, .int v4), (2, .int x3), (5, .int v4)]) X 3 dX8_commonDivisor_28 rfl e7 (by decide) rfl ?_
        refine wg_goto X 7 dX8_commonDivisor_31 (by decide) ?_
        refine wg_pick [2, 1, 0] (lv' := [(2, .int x3), (3, .int v4), (4, .int v6)]) rfl ?_
        exact Kc x3 v4 v6 (sm_inj h).symm
set_option maxHeartbeats 4000000 in
set_option maxRecDepth 100000 in
theorem c_X8_commonDivisor (l : Launch) (E : wg_Ev) (ad : Nat → Nat) (S : wg_Sh) (N : Nat) (C : wg_C) (M : wg_M) (p0 : Int32) (p1 : Int32)  {r0 : Int32} (h : f_X8_commonDivisor N p0 p1 = some r0) : wg_Ci l yX8_commonDivisor cX8_commonDivisor 6 (some .int) 0 0 E ad S C M [.int p0, .int p1] r0 C M := by
  refine wg_start (own := RX8) (by decide +kernel) rfl (Nat.le_of_ble_eq_true rfl) ?_
  intro p e s m below meth c X hr hnm
  refine wg_lv (lv' := [(0, .int p0), (1, .int p1)]) rfl ?_
  unfold f_X8_commonDivisor at h
  refine wg_iload_n X 0 dX8_commonDivisor_0 rfl rfl ?_
  refine wg_istore_n (lv' := [(2, .int p0), (0, .int p0), (1, .int p1)]) X dX8_commonDivisor_1 rfl rfl (by decide) rfl ?_
  refine wg_iload_n X 2 dX8_commonDivisor_2 rfl rfl ?_
  refine wg_istore_n (lv' := [(3, .int p1), (2, .int p0), (0, .int p0), (1, .int p1)]) X dX8_commonDivisor_3 rfl rfl (by decide) rfl ?_
  refine wg_iconst (v := 0) X dX8_commonDivisor_4 (by decide) ?_
  refine wg_istore (lv' := [(4, .int (0 : Int32)), (3, .int p1), (2, .int p0), (0, .int p0), (1, .int p1)]) X dX8_commonDivisor_5 rfl (by decide) rfl ?_
  obtain ⟨o11, h12, h⟩ := bd3_o h
  refine wg_pick [2, 1, 0] (lv' := [(2, .int p0), (3, .int p1), (4, .int (0 : Int32))]) rfl ?_
  refine L_X8_commonDivisor_l7 X hr r0 C M N     N p0 p1 (0 : Int32) o11 h12 (fun v8 v9 v10 e14 => ?_)
  · subst e14
    replace h := bd3_in h
    refine wg_iload_n X 0 dX8_commonDivisor_34 rfl rfl ?_
    refine wg_iconst (v := 1) X dX8_commonDivisor_35 (by decide) ?_
    refine wg_icmp_ge X 43 dX8_commonDivisor_36 (by decide) (fun c15 => ?_) (fun c15 => ?_)
    · have h := if_t c15 h
      refine wg_iload_n X 0 dX8_commonDivisor_43 rfl rfl ?_
      exact wg_iret X ⟨(sm_inj h), rfl, rfl⟩ hr dX8_commonDivisor_44
    · have h := if_f c15 h
      refine wg_iconst (v := 1) X dX8_commonDivisor_39 (by decide) ?_
      refine wg_goto X 44 dX8_commonDivisor_40 (by decide) ?_
      exact wg_iret X ⟨(sm_inj h), rfl, rfl⟩ hr dX8_commonDivisor_44
-- WindowsGive.chance(IIIII)J (('c', 0), 'i', 'i', 'i', 'i', 'i')
def f_X8_chance_l56 (N : Nat) (S : wg_Sh)  (x1 : Int32) (x2 : Int32) (x3 : Int32) (x4 : Int32) (x5 : Int32) (C : wg_C) (x6 : Int32) (x7 : Int32) : Option ((wg_C × Int32 × Int32) ⊕ (wg_C × Int32 × Int32)) :=
  if x3 ≤ x7 then (
    some (.inr (C, x6, x7)))
  else (
    bd2 (f_X8_drawnWater N S C x1 (x2 + x7)) fun r12 C13 =>
    if x4 < r12 then (
      lt_ (x7 + (1 : Int32)) fun v15 =>
      some (.inl (C13, x6, v15)))
    else (
      lt_ (x6 + (1 : Int32)) fun v17 =>
      lt_ (x7 + (1 : Int32)) fun v19 =>
      some (.inl (C13, v17, v19))))
def f_X8_chance (N : Nat) (S : wg_Sh) (C : wg_C) (p1 : Int32) (p2 : Int32) (p3 : Int32) (p4 : Int32) (p5 : Int32) : Option (Int64 × wg_C) :=
  bd (f_X8_isRoom p1) fun r2 =>
  if r2 = 0 then (
    some ((-4611686018427387904 : Int64), C))
  else (
    if p3 < (1 : Int32) then (
      some ((-4611686018427387904 : Int64), C))
    else (
      if p3 ≤ (20 : Int32) then (
        if p4 < 0 then (
          some ((-4611686018427387904 : Int64), C))
        else (
          if (99999 : Int32) < p4 then (
            some ((-4611686018427387904 : Int64), C))
          else (
            if p5 < 0 then (
              some ((-4611686018427387904 : Int64), C))
            else (
              if p5 ≤ (1 : Int32) then (
                bd3 (lp (fun o => f_X8_chance_l56 N S  p1 p2 p3 p4 p5 o.1 o.2.1 o.2.2) N (C, (0 : Int32), (0 : Int32))) fun C21 v22 v23 =>
                bd (f_X8_commonDivisor N p3 v22) fun r29 =>
                if p5 = 0 then (
                  ck (¬ r29 = 0) <|
                  some (((v22 / r29).toInt64), C21))
                else (
                  ck (¬ r29 = 0) <|
                  some (((p3 / r29).toInt64), C21)))
              else (
                some ((-4611686018427387904 : Int64), C))))))
      else (
        some ((-4611686018427387904 : Int64), C))))
abbrev G_X8_chance (p : Program) (l : Launch) (e : Env) (s : State) (m : MethodId) (args : Array Value) (below : List Frame) (meth : Method) (c : Code) (E : wg_Ev) (ad : Nat → Nat) (S : wg_Sh) (r0 : Int64) (C0 : wg_C) (M0 : wg_M) (pc : Nat) (C : wg_C) (M : wg_M) (lv : List (Nat × Value)) (st : List Value) : Prop := wg_G p l e (wg_Rm 6 147) s m args below meth c (MQ below (wg_Ql E ad S r0 C0 M0) args s 0 0 (wg_A E)) 8 E ad S 0 0 pc C M lv st
set_option maxHeartbeats 4000000 in
set_option maxRecDepth 100000 in
theorem L_X8_chance_l56 {p : Program} {l : Launch} {e : Env} {s : State} {m : MethodId} {args : Array Value} {below : List Frame} {meth : Method} {c : Code} {E : wg_Ev} {ad : Nat → Nat} {S : wg_Sh} (X : wg_X p s m args meth c cX8_chance 8 RX8 E) (hr : meth.sig.returnType = (some .long)) (hS : wg_SC S) (r0 : Int64) (D0 : wg_C) (M : wg_M) (N : Nat)   (x1 : Int32) (x2 : Int32) (x3 : Int32) (x4 : Int32) (x5 : Int32)  : ∀ (n : Nat) (C : wg_C) (x6 : Int32) (x7 : Int32) (o : (wg_C × Int32 × Int32)), lp (fun o => f_X8_chance_l56 N S  x1 x2 x3 x4 x5 o.1 o.2.1 o.2.2) n (C, x6, x7) = some o → (∀ (Dy : wg_C) (y6 : Int32) (y7 : Int32), o = (Dy, y6, y7) → G_X8_chance p l e s m args below meth c E ad S r0 D0 M 85 Dy M [(0, .ref (ad 0)), (1, .int x1), (2, .int x2), (3, .int x3), (4, .int x4), (5, .int x5), (6, .int y6), (7, .int y7)] []) → G_X8_chance p l e s m args below meth c E ad S r0 D0 M 56 C M [(0, .ref (ad 0)), (1, .int x1), (2, .int x2), (3, .int x3), (4, .int x4), (5, .int x5), (6, .int x6), (7, .int x7)] [] := by
  intro n
  induction n with
  | zero => exact fun _ _ _ o h => (lp_zero h).elim
  | succ n ih =>
    intro C x6 x7 o h K
    obtain ⟨o1, hb, h2⟩ := lp_some h
    replace hb : f_X8_chance_l56 N S  x1 x2 x3 x4 x5 C x6 x7 = some o1 := hb
    clear h
    have Kc : ∀ (Dy : wg_C) (y6 : Int32) (y7 : Int32), o1 = Sum.inl (Dy, y6, y7) → G_X8_chance p l e s m args below meth c E ad S r0 D0 M 56 Dy M [(0, .ref (ad 0)), (1, .int x1), (2, .int x2), (3, .int x3), (4, .int x4), (5, .int x5), (6, .int y6), (7, .int y7)] [] := fun Dy y6 y7 e1 => by
      subst e1
      exact ih Dy y6 y7 o h2 K
    have Ke : ∀ (Dy : wg_C) (y6 : Int32) (y7 : Int32), o1 = Sum.inr ((Dy, y6, y7)) → G_X8_chance p l e s m args below meth c E ad S r0 D0 M 85 Dy M [(0, .ref (ad 0)), (1, .int x1), (2, .int x2), (3, .int x3), (4, .int x4), (5, .int x5), (6, .int y6), (7, .int y7)] [] := fun Dy y6 y7 e1 => by
      subst e1
      exact K Dy y6 y7 (sm_inj (α := (wg_C × Int32 × Int32)) h2).symm
    clear ih K h2
    unfold f_X8_chance_l56 at hb
    have h := hb
    clear hb
    refine wg_iload X 7 dX8_chance_56 rfl ?_
    refine wg_iload_n X 3 dX8_chance_58 rfl rfl ?_
    refine wg_icmp_ge X 85 dX8_chance_59 (by decide) (fun c10 => ?_) (fun c10 => ?_)
    · have h := if_t c10 h
      exact Ke C x6 x7 (sm_inj h).symm
    · have h := if_f c10 h
      refine wg_aload_n X 0 dX8_chance_62 rfl rfl ?_
      refine wg_iload_n X 1 dX8_chance_63 rfl rfl ?_
      refine wg_iload_n X 2 dX8_chance_64 rfl rfl ?_
      refine wg_iload X 7 dX8_chance_65 rfl ?_
      refine wg_iadd X dX8_chance_67 ?_
      obtain ⟨r12, C13, h11, h⟩ := bd2_some h
      refine wg_callVi (As := [.int x1, .int (x2 + x7)]) (rest := []) X (c_X8_drawnWater l E ad S hS N C M x1 (x2 + x7)  h11) T_yX8_drawnWater k_799 cl8 (SCi hS 0 8 rfl) dX8_chance_68 rfl rfl (Nat.le_of_ble_eq_true rfl) ⟨Nat.le_of_ble_eq_true rfl, Nat.le_of_ble_eq_true rfl⟩ ⟨Nat.zero_le _, Nat.zero_le _⟩ ?_
      refine wg_iload X 4 dX8_chance_71 rfl ?_
      refine wg_icmp_gt X 79 dX8_chance_73 (by decide) (fun c14 => ?_) (fun c14 => ?_)
      · have h := if_t c14 h
        obtain ⟨v15, e16, h⟩ := lt_some h
        refine wg_iinc (lv' := [(7, .int v15), (0, .ref (ad 0)), (1, .int x1), (2, .int x2), (3, .int x3), (4, .int x4), (5, .int x5), (6, .int x6)]) X 7 dX8_chance_79 rfl e16 (by decide) rfl ?_
        refine wg_goto X 56 dX8_chance_82 (by decide) ?_
        refine wg_pick [1, 2, 3, 4, 5, 6, 7, 0] (lv' := [(0, .ref (ad 0)), (1, .int x1), (2, .int x2), (3, .int x3), (4, .int x4), (5, .int x5), (6, .int x6), (7, .int v15)]) rfl ?_
        exact Kc C13 x6 v15 (sm_inj h).symm
      · have h := if_f c14 h
        obtain ⟨v17, e18, h⟩ := lt_some h
        refine wg_iinc (lv' := [(6, .int v17), (0, .ref (ad 0)), (1, .int x1), (2, .int x2), (3, .int x3), (4, .int x4), (5, .int x5), (7, .int x7)]) X 6 dX8_chance_76 rfl e18 (by decide) rfl ?_
        obtain ⟨v19, e20, h⟩ := lt_some h
        refine wg_iinc (lv' := [(7, .int v19), (6, .int v17), (0, .ref (ad 0)), (1, .int x1), (2, .int x2), (3, .int x3), (4, .int x4), (5, .int x5)]) X 7 dX8_chance_79 rfl e20 (by decide) rfl ?_
        refine wg_goto X 56 dX8_chance_82 (by decide) ?_
        refine wg_pick [2, 3, 4, 5, 6, 7, 1, 0] (lv' := [(0, .ref (ad 0)), (1, .int x1), (2, .int x2), (3, .int x3), (4, .int x4), (5, .int x5), (6, .int v17), (7, .int v19)]) rfl ?_
        exact Kc C13 v17 v19 (sm_inj h).symm
set_option maxHeartbeats 4000000 in
set_option maxRecDepth 100000 in
theorem c_X8_chance (l : Launch) (E : wg_Ev) (ad : Nat → Nat) (S : wg_Sh) (hS : wg_SC S) (N : Nat) (C : wg_C) (M : wg_M) (p1 : Int32) (p2 : Int32) (p3 : Int32) (p4 : Int32) (p5 : Int32)  {r0 : Int64} {D0 : wg_C} (h : f_X8_chance N S C p1 p2 p3 p4 p5 = some (r0, D0)) : wg_Cl l yX8_chance cX8_chance 8 (some .long) 6 147 E ad S C M [.ref (ad 0), .int p1, .int p2, .int p3, .int p4, .int p5] r0 D0 M := by
  refine wg_start (own := RX8) (by decide +kernel) rfl (Nat.le_of_ble_eq_true rfl) ?_
  intro p e s m below meth c X hr hnm
  refine wg_lv (lv' := [(0, .ref (ad 0)), (1, .int p1), (2, .int p2), (3, .int p3), (4, .int p4), (5, .int p5)]) rfl ?_
  unfold f_X8_chance at h
  refine wg_iload_n X 1 dX8_chance_0 rfl rfl ?_
  obtain ⟨r2, h1, h⟩ := bd_some h
  refine wg_callSi (As := [.int p1]) (rest := []) X (c_X8_isRoom l E ad S C M p1  h1) T_yX8_isRoom k_535 dX8_chance_1 rfl rfl (Nat.le_of_ble_eq_true rfl) ⟨Nat.le_of_ble_eq_true rfl, Nat.le_of_ble_eq_true rfl⟩ ⟨Nat.zero_le _, Nat.zero_le _⟩ ?_
  refine wg_if_eq X 18 dX8_chance_4 (by decide) (fun c3 => ?_) (fun c3 => ?_)
  · have h := if_t c3 h
    refine wg_ldc2 (v := -4611686018427387904) X dX8_chance_18 k_808 ?_
    exact wg_lret X ⟨(Prod.mk.inj (sm_inj h)).1, (Prod.mk.inj (sm_inj h)).2, rfl⟩ hr dX8_chance_21
  · have h := if_f c3 h
    refine wg_iload_n X 3 dX8_chance_7 rfl rfl ?_
    refine wg_iconst (v := 1) X dX8_chance_8 (by decide) ?_
    refine wg_icmp_lt X 18 dX8_chance_9 (by decide) (fun c4 => ?_) (fun c4 => ?_)
    · have h := if_t c4 h
      refine wg_ldc2 (v := -4611686018427387904) X dX8_chance_18 k_808 ?_
      exact wg_lret X ⟨(Prod.mk.inj (sm_inj h)).1, (Prod.mk.inj (sm_inj h)).2, rfl⟩ hr dX8_chance_21
    · have h := if_f c4 h
      refine wg_iload_n X 3 dX8_chance_12 rfl rfl ?_
      refine wg_bipush (v := 20) X dX8_chance_13 (by decide) ?_
      refine wg_icmp_le X 22 dX8_chance_15 (by decide) (fun c5 => ?_) (fun c5 => ?_)
      · have h := if_t c5 h
        refine wg_iload X 4 dX8_chance_22 rfl ?_
        refine wg_if_lt X 46 dX8_chance_24 (by decide) (fun c6 => ?_) (fun c6 => ?_)
        · have h := if_t c6 h
          refine wg_ldc2 (v := -4611686018427387904) X dX8_chance_46 k_808 ?_
          exact wg_lret X ⟨(Prod.mk.inj (sm_inj h)).1, (Prod.mk.inj (sm_inj h)).2, rfl⟩ hr dX8_chance_49
        · have h := if_f c6 h
          refine wg_iload X 4 dX8_chance_27 rfl ?_
          refine wg_ldcw (v := 99999) X dX8_chance_29 k_809 ?_
          refine wg_icmp_gt X 46 dX8_chance_32 (by decide) (fun c7 => ?_) (fun c7 => ?_)
          · have h := if_t c7 h
            refine wg_ldc2 (v := -4611686018427387904) X dX8_chance_46 k_808 ?_
            exact wg_lret X ⟨(Prod.mk.inj (sm_inj h)).1, (Prod.mk.inj (sm_inj h)).2, rfl⟩ hr dX8_chance_49
          · have h := if_f c7 h
            refine wg_iload X 5 dX8_chance_35 rfl ?_
            refine wg_if_lt X 46 dX8_chance_37 (by decide) (fun c8 => ?_) (fun c8 => ?_)
            · have h := if_t c8 h
              refine wg_ldc2 (v := -4611686018427387904) X dX8_chance_46 k_808 ?_
              exact wg_lret X ⟨(Prod.mk.inj (sm_inj h)).1, (Prod.mk.inj (sm_inj h)).2, rfl⟩ hr dX8_chance_49
            · have h := if_f c8 h
              refine wg_iload X 5 dX8_chance_40 rfl ?_
              refine wg_iconst (v := 1) X dX8_chance_42 (by decide) ?_
              refine wg_icmp_le X 50 dX8_chance_43 (by decide) (fun c9 => ?_) (fun c9 => ?_)
              · have h := if_t c9 h
                refine wg_iconst (v := 0) X dX8_chance_50 (by decide) ?_
                refine wg_istore (lv' := [(6, .int (0 : Int32)), (0, .ref (ad 0)), (1, .int p1), (2, .int p2), (3, .int p3), (4, .int p4), (5, .int p5)]) X dX8_chance_51 rfl (by decide) rfl ?_
                refine wg_iconst (v := 0) X dX8_chance_53 (by decide) ?_
                refine wg_istore (lv' := [(7, .int (0 : Int32)), (6, .int (0 : Int32)), (0, .ref (ad 0)), (1, .int p1), (2, .int p2), (3, .int p3), (4, .int p4), (5, .int p5)]) X dX8_chance_54 rfl (by decide) rfl ?_
                obtain ⟨o24, h25, h⟩ := bd3_o h
                refine wg_pick [2, 3, 4, 5, 6, 7, 1, 0] (lv' := [(0, .ref (ad 0)), (1, .int p1), (2, .int p2), (3, .int p3), (4, .int p4), (5, .int p5), (6, .int (0 : Int32)), (7, .int (0 : Int32))]) rfl ?_
                refine L_X8_chance_l56 X hr hS r0 D0 M N   p1 p2 p3 p4 p5  N C (0 : Int32) (0 : Int32) o24 h25 (fun C21 v22 v23 e27 => ?_)
                · subst e27
                  replace h := bd3_in h
                  refine wg_iload_n X 3 dX8_chance_85 rfl rfl ?_
                  refine wg_iload X 6 dX8_chance_86 rfl ?_
                  obtain ⟨r29, h28, h⟩ := bd_some h
                  refine wg_callSi (As := [.int p3, .int v22]) (rest := []) X (c_X8_commonDivisor l E ad S N C21 M p3 v22  h28) T_yX8_commonDivisor k_810 dX8_chance_88 rfl rfl (Nat.le_of_ble_eq_true rfl) ⟨Nat.le_of_ble_eq_true rfl, Nat.le_of_ble_eq_true rfl⟩ ⟨Nat.zero_le _, Nat.zero_le _⟩ ?_
                  refine wg_istore (lv' := [(7, .int r29), (0, .ref (ad 0)), (1, .int p1), (2, .int p2), (3, .int p3), (4, .int p4), (5, .int p5), (6, .int v22)]) X dX8_chance_91 rfl (by decide) rfl ?_
                  refine wg_iload X 6 dX8_chance_93 rfl ?_
                  refine wg_if_ne X 103 dX8_chance_95 (by decide) (fun c30 => ?_) (fun c30 => ?_)
                  · have h := if_f c30 h
                    refine wg_iload_n X 4 dX8_chance_103 rfl rfl ?_
                    refine wg_iload X 0 dX8_chance_104 rfl ?_
                    obtain ⟨z31, h⟩ := ck_some h
                    refine wg_idiv X dX8_chance_106 z31 ?_
                    refine wg_i2l X dX8_chance_107 ?_
                    exact wg_lret X ⟨(Prod.mk.inj (sm_inj h)).1, (Prod.mk.inj (sm_inj h)).2, rfl⟩ hr dX8_chance_108
                  · have h := if_t c30 h
                    refine wg_iload X 7 dX8_chance_98 rfl ?_
                    refine wg_goto X 104 dX8_chance_100 (by decide) ?_
                    refine wg_iload X 0 dX8_chance_104 rfl ?_
                    obtain ⟨z32, h⟩ := ck_some h
                    refine wg_idiv X dX8_chance_106 z32 ?_
                    refine wg_i2l X dX8_chance_107 ?_
                    exact wg_lret X ⟨(Prod.mk.inj (sm_inj h)).1, (Prod.mk.inj (sm_inj h)).2, rfl⟩ hr dX8_chance_108
              · have h := if_f c9 h
                refine wg_ldc2 (v := -4611686018427387904) X dX8_chance_46 k_808 ?_
                exact wg_lret X ⟨(Prod.mk.inj (sm_inj h)).1, (Prod.mk.inj (sm_inj h)).2, rfl⟩ hr dX8_chance_49
      · have h := if_f c5 h
        refine wg_ldc2 (v := -4611686018427387904) X dX8_chance_18 k_808 ?_
        exact wg_lret X ⟨(Prod.mk.inj (sm_inj h)).1, (Prod.mk.inj (sm_inj h)).2, rfl⟩ hr dX8_chance_21
-- WindowsGive$House.become(LWindowsGive$House;)V (('c', 12), ('c', 1))
def f_X0_become_l17 (N : Nat)   (C : wg_C) (x2 : Int32) : Option ((wg_C × Int32) ⊕ (wg_C × Int32)) :=
  if (8 : Int32) ≤ x2 then (
    some (.inr (C, x2)))
  else (
    ck (inb x2 8) <|
    ck (inb x2 8) <|
    bd (f_X1_become C (15 + x2.toNatClampNeg) (4 + x2.toNatClampNeg)) fun C8 =>
    lt_ (x2 + (1 : Int32)) fun v9 =>
    some (.inl (C8, v9)))
def f_X0_become (N : Nat) (C : wg_C)  : Option wg_C :=
  ck (¬ (0 : Int32) < 0 ∧ ¬ (0 : Int32) < 0 ∧ ¬ (32 : Int32) < 0 ∧ (0 : Int32).toNatClampNeg + (32 : Int32).toNatClampNeg ≤ 32 ∧ (0 : Int32).toNatClampNeg + (32 : Int32).toNatClampNeg ≤ 32) <|
  lt_ (wg_cp C 2 13 (0 : Int32).toNatClampNeg (0 : Int32).toNatClampNeg (32 : Int32).toNatClampNeg) fun C2 =>
  bd2 (lp (fun o => f_X0_become_l17 N   o.1 o.2) N (C2, (0 : Int32))) fun C11 v12 =>
  lt_ (wg_up C11 12 2 (C11 1 2)) fun C17 =>
  lt_ (wg_up C17 12 3 (C17 1 3)) fun C19 =>
  some C19
abbrev G_X0_become (p : Program) (l : Launch) (e : Env) (s : State) (m : MethodId) (args : Array Value) (below : List Frame) (meth : Method) (c : Code) (E : wg_Ev) (ad : Nat → Nat) (S : wg_Sh) (C0 : wg_C) (M0 : wg_M) (pc : Nat) (C : wg_C) (M : wg_M) (lv : List (Nat × Value)) (st : List Value) : Prop := wg_G p l e (wg_Rm 1 21) s m args below meth c (MQ below (wg_Qv E ad S C0 M0) args s 0 0 (wg_A E)) 3 E ad S 0 0 pc C M lv st
set_option maxHeartbeats 4000000 in
set_option maxRecDepth 100000 in
theorem L_X0_become_l17 {p : Program} {l : Launch} {e : Env} {s : State} {m : MethodId} {args : Array Value} {below : List Frame} {meth : Method} {c : Code} {E : wg_Ev} {ad : Nat → Nat} {S : wg_Sh} (X : wg_X p s m args meth c cX0_become 3 RX0 E) (hr : meth.sig.returnType = none) (hS : wg_SC S) (D0 : wg_C) (M : wg_M) (N : Nat)     : ∀ (n : Nat) (C : wg_C) (x2 : Int32) (o : (wg_C × Int32)), lp (fun o => f_X0_become_l17 N   o.1 o.2) n (C, x2) = some o → (∀ (Dy : wg_C) (y2 : Int32), o = (Dy, y2) → G_X0_become p l e s m args below meth c E ad S D0 M 44 Dy M [(0, .ref (ad 12)), (1, .ref (ad 1)), (2, .int y2)] []) → G_X0_become p l e s m args below meth c E ad S D0 M 17 C M [(0, .ref (ad 12)), (1, .ref (ad 1)), (2, .int x2)] [] := by
  intro n
  induction n with
  | zero => exact fun _ _ o h => (lp_zero h).elim
  | succ n ih =>
    intro C x2 o h K
    obtain ⟨o1, hb, h2⟩ := lp_some h
    replace hb : f_X0_become_l17 N   C x2 = some o1 := hb
    clear h
    have Kc : ∀ (Dy : wg_C) (y2 : Int32), o1 = Sum.inl (Dy, y2) → G_X0_become p l e s m args below meth c E ad S D0 M 17 Dy M [(0, .ref (ad 12)), (1, .ref (ad 1)), (2, .int y2)] [] := fun Dy y2 e1 => by
      subst e1
      exact ih Dy y2 o h2 K
    have Ke : ∀ (Dy : wg_C) (y2 : Int32), o1 = Sum.inr ((Dy, y2)) → G_X0_become p l e s m args below meth c E ad S D0 M 44 Dy M [(0, .ref (ad 12)), (1, .ref (ad 1)), (2, .int y2)] [] := fun Dy y2 e1 => by
      subst e1
      exact K Dy y2 (sm_inj (α := (wg_C × Int32)) h2).symm
    clear ih K h2
    unfold f_X0_become_l17 at hb
    have h := hb
    clear hb
    refine wg_iload_n X 2 dX0_become_17 rfl rfl ?_
    refine wg_bipush (v := 8) X dX0_become_18 (by decide) ?_
    refine wg_icmp_ge X 44 dX0_become_20 (by decide) (fun c4 => ?_) (fun c4 => ?_)
    · have h := if_t c4 h
      exact Ke C x2 (sm_inj h).symm
    · have h := if_f c4 h
      refine wg_aload_n X 0 dX0_become_23 rfl rfl ?_
      refine wg_getR (b := 14) X cl0 (SCi hS 12 0 rfl) 1 (by decide) dX0_become_24 k_143 rfl (SCr hS 12 1 14 rfl) ?_
      refine wg_iload_n X 2 dX0_become_27 rfl rfl ?_
      obtain ⟨z5, h⟩ := ck_some h
      refine wg_aalS13 (b := 15 + x2.toNatClampNeg) X (SCi hS 14 13 rfl) (SCl hS 14 8 rfl) z5 (SCp hS (inb_lt z5)).2.2.1 dX0_become_28 ?_
      refine wg_aload_n X 1 dX0_become_29 rfl rfl ?_
      refine wg_getR (b := 3) X cl0 (SCi hS 1 0 rfl) 1 (by decide) dX0_become_30 k_143 rfl (SCr hS 1 1 3 rfl) ?_
      refine wg_iload_n X 2 dX0_become_33 rfl rfl ?_
      obtain ⟨z6, h⟩ := ck_some h
      refine wg_aalS13 (b := 4 + x2.toNatClampNeg) X (SCi hS 3 13 rfl) (SCl hS 3 8 rfl) z6 (SCp hS (inb_lt z6)).1 dX0_become_34 ?_
      obtain ⟨C8, h7, h⟩ := bd_some h
      refine wg_callVv (As := [.ref (ad (4 + x2.toNatClampNeg))]) (rest := []) X (c_X1_become l E ad S hS C M (15 + x2.toNatClampNeg) (4 + x2.toNatClampNeg) ((SCp hS (inb_lt z5)).2.2.2) ((SCp hS (inb_lt z6)).2.1) h7) T_yX1_become k_822 cl1 ((SCp hS (inb_lt z5)).2.2.2) dX0_become_35 rfl rfl (Nat.le_of_ble_eq_true rfl) ⟨Nat.le_of_ble_eq_true rfl, Nat.le_of_ble_eq_true rfl⟩ ⟨Nat.zero_le _, Nat.zero_le _⟩ ?_
      obtain ⟨v9, e10, h⟩ := lt_some h
      refine wg_iinc (lv' := [(2, .int v9), (0, .ref (ad 12)), (1, .ref (ad 1))]) X 2 dX0_become_38 rfl e10 (by decide) rfl ?_
      refine wg_goto X 17 dX0_become_41 (by decide) ?_
      refine wg_pick [1, 2, 0] (lv' := [(0, .ref (ad 12)), (1, .ref (ad 1)), (2, .int v9)]) rfl ?_
      exact Kc C8 v9 (sm_inj h).symm
set_option maxHeartbeats 4000000 in
set_option maxRecDepth 100000 in
theorem c_X0_become (l : Launch) (E : wg_Ev) (ad : Nat → Nat) (S : wg_Sh) (hS : wg_SC S) (N : Nat) (C : wg_C) (M : wg_M)   {D0 : wg_C} (h : f_X0_become N C  = some D0) : wg_Cv l yX0_become cX0_become 3 none 1 21 E ad S C M [.ref (ad 12), .ref (ad 1)] D0 M := by
  refine wg_start (own := RX0) (by decide +kernel) rfl (Nat.le_of_ble_eq_true rfl) ?_
  intro p e s m below meth c X hr hnm
  refine wg_lv (lv' := [(0, .ref (ad 12)), (1, .ref (ad 1))]) rfl ?_
  unfold f_X0_become at h
  refine wg_aload_n X 1 dX0_become_0 rfl rfl ?_
  refine wg_getR (b := 2) X cl0 (SCi hS 1 0 rfl) 0 (by decide) dX0_become_1 k_140 rfl (SCr hS 1 0 2 rfl) ?_
  refine wg_iconst (v := 0) X dX0_become_4 (by decide) ?_
  refine wg_aload_n X 0 dX0_become_5 rfl rfl ?_
  refine wg_getR (b := 13) X cl0 (SCi hS 12 0 rfl) 0 (by decide) dX0_become_6 k_140 rfl (SCr hS 12 0 13 rfl) ?_
  refine wg_iconst (v := 0) X dX0_become_9 (by decide) ?_
  refine wg_bipush (v := 32) X dX0_become_10 (by decide) ?_
  obtain ⟨z1, h⟩ := ck_some h
  obtain ⟨C2, e3, h⟩ := lt_some h
  refine wg_acopy X (SCi hS 2 10 rfl) (SCl hS 2 32 rfl) (SCi hS 13 10 rfl) (SCl hS 13 32 rfl) k_821 z1.1 z1.2.1 z1.2.2.1 z1.2.2.2.1 z1.2.2.2.2 ⟨Nat.le_of_ble_eq_true rfl, Nat.le_of_ble_eq_true rfl⟩ dX0_become_12 e3 ?_
  refine wg_iconst (v := 0) X dX0_become_15 (by decide) ?_
  refine wg_istore_n (lv' := [(2, .int (0 : Int32)), (0, .ref (ad 12)), (1, .ref (ad 1))]) X dX0_become_16 rfl rfl (by decide) rfl ?_
  obtain ⟨o13, h14, h⟩ := bd2_o h
  refine wg_pick [1, 2, 0] (lv' := [(0, .ref (ad 12)), (1, .ref (ad 1)), (2, .int (0 : Int32))]) rfl ?_
  refine L_X0_become_l17 X hr hS D0 M N     N C2 (0 : Int32) o13 h14 (fun C11 v12 e16 => ?_)
  · subst e16
    replace h := bd2_in h
    refine wg_aload_n X 0 dX0_become_44 rfl rfl ?_
    refine wg_aload_n X 1 dX0_become_45 rfl rfl ?_
    refine wg_getC X cl0 (SCi hS 1 0 rfl) 2 (by decide) dX0_become_46 k_146 rfl ?_
    obtain ⟨C17, e18, h⟩ := lt_some h
    refine wg_putCe X cl0 (SCi hS 12 0 rfl) 2 (by decide) dX0_become_49 k_146 rfl rfl rfl rfl e18 ?_
    refine wg_aload_n X 0 dX0_become_52 rfl rfl ?_
    refine wg_aload_n X 1 dX0_become_53 rfl rfl ?_
    refine wg_getC X cl0 (SCi hS 1 0 rfl) 3 (by decide) dX0_become_54 k_149 rfl ?_
    obtain ⟨C19, e20, h⟩ := lt_some h
    refine wg_putCe X cl0 (SCi hS 12 0 rfl) 3 (by decide) dX0_become_57 k_149 rfl rfl rfl rfl e20 ?_
    exact wg_vret X ⟨(sm_inj h), rfl⟩ hr dX0_become_60
-- WindowsGive.image()I (('c', 0),)
def f_X8_image (N : Nat) (C : wg_C)  : Option (Int32 × wg_C) :=
  bd (f_X0_become N C ) fun C2 =>
  lt_ (wg_up C2 0 2 (1 : Int32)) fun C3 =>
  some ((C3 12 2), C3)
set_option maxHeartbeats 4000000 in
set_option maxRecDepth 100000 in
theorem c_X8_image (l : Launch) (E : wg_Ev) (ad : Nat → Nat) (S : wg_Sh) (hS : wg_SC S) (N : Nat) (C : wg_C) (M : wg_M)   {r0 : Int32} {D0 : wg_C} (h : f_X8_image N C  = some (r0, D0)) : wg_Ci l yX8_image cX8_image 1 (some .int) 2 43 E ad S C M [.ref (ad 0)] r0 D0 M := by
  refine wg_start (own := RX8) (by decide +kernel) rfl (Nat.le_of_ble_eq_true rfl) ?_
  intro p e s m below meth c X hr hnm
  refine wg_lv (lv' := [(0, .ref (ad 0))]) rfl ?_
  unfold f_X8_image at h
  refine wg_aload_n X 0 dX8_image_0 rfl rfl ?_
  refine wg_getR (b := 12) X cl8 (SCi hS 0 8 rfl) 1 (by decide) dX8_image_1 k_473 rfl (SCr hS 0 1 12 rfl) ?_
  refine wg_aload_n X 0 dX8_image_4 rfl rfl ?_
  refine wg_getR (b := 1) X cl8 (SCi hS 0 8 rfl) 0 (by decide) dX8_image_5 k_472 rfl (SCr hS 0 0 1 rfl) ?_
  obtain ⟨C2, h1, h⟩ := bd_some h
  refine wg_callVv (As := [.ref (ad 1)]) (rest := []) X (c_X0_become l E ad S hS N C M   h1) T_yX0_become k_817 cl0 (SCi hS 12 0 rfl) dX8_image_8 rfl rfl (Nat.le_of_ble_eq_true rfl) ⟨Nat.le_of_ble_eq_true rfl, Nat.le_of_ble_eq_true rfl⟩ ⟨Nat.zero_le _, Nat.zero_le _⟩ ?_
  refine wg_aload_n X 0 dX8_image_11 rfl rfl ?_
  refine wg_iconst (v := 1) X dX8_image_12 (by decide) ?_
  obtain ⟨C3, e4, h⟩ := lt_some h
  refine wg_putCe X cl8 (SCi hS 0 8 rfl) 2 (by decide) dX8_image_13 k_474 rfl rfl (by decide) (by decide) e4 ?_
  refine wg_aload_n X 0 dX8_image_16 rfl rfl ?_
  refine wg_getR (b := 12) X cl8 (SCi hS 0 8 rfl) 1 (by decide) dX8_image_17 k_473 rfl (SCr hS 0 1 12 rfl) ?_
  refine wg_getC X cl0 (SCi hS 12 0 rfl) 2 (by decide) dX8_image_20 k_147 rfl ?_
  exact wg_iret X ⟨(Prod.mk.inj (sm_inj h)).1, (Prod.mk.inj (sm_inj h)).2, rfl⟩ hr dX8_image_23
-- WindowsGive$House.become(LWindowsGive$House;)V (('c', 1), ('c', 12))
def f_X0_become_i1_l17 (N : Nat)   (C : wg_C) (x2 : Int32) : Option ((wg_C × Int32) ⊕ (wg_C × Int32)) :=
  if (8 : Int32) ≤ x2 then (
    some (.inr (C, x2)))
  else (
    ck (inb x2 8) <|
    ck (inb x2 8) <|
    bd (f_X1_become C (4 + x2.toNatClampNeg) (15 + x2.toNatClampNeg)) fun C8 =>
    lt_ (x2 + (1 : Int32)) fun v9 =>
    some (.inl (C8, v9)))
def f_X0_become_i1 (N : Nat) (C : wg_C)  : Option wg_C :=
  ck (¬ (0 : Int32) < 0 ∧ ¬ (0 : Int32) < 0 ∧ ¬ (32 : Int32) < 0 ∧ (0 : Int32).toNatClampNeg + (32 : Int32).toNatClampNeg ≤ 32 ∧ (0 : Int32).toNatClampNeg + (32 : Int32).toNatClampNeg ≤ 32) <|
  lt_ (wg_cp C 13 2 (0 : Int32).toNatClampNeg (0 : Int32).toNatClampNeg (32 : Int32).toNatClampNeg) fun C2 =>
  bd2 (lp (fun o => f_X0_become_i1_l17 N   o.1 o.2) N (C2, (0 : Int32))) fun C11 v12 =>
  lt_ (wg_up C11 1 2 (C11 12 2)) fun C17 =>
  lt_ (wg_up C17 1 3 (C17 12 3)) fun C19 =>
  some C19
abbrev G_X0_become_i1 (p : Program) (l : Launch) (e : Env) (s : State) (m : MethodId) (args : Array Value) (below : List Frame) (meth : Method) (c : Code) (E : wg_Ev) (ad : Nat → Nat) (S : wg_Sh) (C0 : wg_C) (M0 : wg_M) (pc : Nat) (C : wg_C) (M : wg_M) (lv : List (Nat × Value)) (st : List Value) : Prop := wg_G p l e (wg_Rm 1 21) s m args below meth c (MQ below (wg_Qv E ad S C0 M0) args s 0 0 (wg_A E)) 3 E ad S 0 0 pc C M lv st
set_option maxHeartbeats 4000000 in
set_option maxRecDepth 100000 in
theorem L_X0_become_i1_l17 {p : Program} {l : Launch} {e : Env} {s : State} {m : MethodId} {args : Array Value} {below : List Frame} {meth : Method} {c : Code} {E : wg_Ev} {ad : Nat → Nat} {S : wg_Sh} (X : wg_X p s m args meth c cX0_become 3 RX0 E) (hr : meth.sig.returnType = none) (hS : wg_SC S) (D0 : wg_C) (M : wg_M) (N : Nat)     : ∀ (n : Nat) (C : wg_C) (x2 : Int32) (o : (wg_C × Int32)), lp (fun o => f_X0_become_i1_l17 N   o.1 o.2) n (C, x2) = some o → (∀ (Dy : wg_C) (y2 : Int32), o = (Dy, y2) → G_X0_become_i1 p l e s m args below meth c E ad S D0 M 44 Dy M [(0, .ref (ad 1)), (1, .ref (ad 12)), (2, .int y2)] []) → G_X0_become_i1 p l e s m args below meth c E ad S D0 M 17 C M [(0, .ref (ad 1)), (1, .ref (ad 12)), (2, .int x2)] [] := by
  intro n
  induction n with
  | zero => exact fun _ _ o h => (lp_zero h).elim
  | succ n ih =>
    intro C x2 o h K
    obtain ⟨o1, hb, h2⟩ := lp_some h
    replace hb : f_X0_become_i1_l17 N   C x2 = some o1 := hb
    clear h
    have Kc : ∀ (Dy : wg_C) (y2 : Int32), o1 = Sum.inl (Dy, y2) → G_X0_become_i1 p l e s m args below meth c E ad S D0 M 17 Dy M [(0, .ref (ad 1)), (1, .ref (ad 12)), (2, .int y2)] [] := fun Dy y2 e1 => by
      subst e1
      exact ih Dy y2 o h2 K
    have Ke : ∀ (Dy : wg_C) (y2 : Int32), o1 = Sum.inr ((Dy, y2)) → G_X0_become_i1 p l e s m args below meth c E ad S D0 M 44 Dy M [(0, .ref (ad 1)), (1, .ref (ad 12)), (2, .int y2)] [] := fun Dy y2 e1 => by
      subst e1
      exact K Dy y2 (sm_inj (α := (wg_C × Int32)) h2).symm
    clear ih K h2
    unfold f_X0_become_i1_l17 at hb
    have h := hb
    clear hb
    refine wg_iload_n X 2 dX0_become_17 rfl rfl ?_
    refine wg_bipush (v := 8) X dX0_become_18 (by decide) ?_
    refine wg_icmp_ge X 44 dX0_become_20 (by decide) (fun c4 => ?_) (fun c4 => ?_)
    · have h := if_t c4 h
      exact Ke C x2 (sm_inj h).symm
    · have h := if_f c4 h
      refine wg_aload_n X 0 dX0_become_23 rfl rfl ?_
      refine wg_getR (b := 3) X cl0 (SCi hS 1 0 rfl) 1 (by decide) dX0_become_24 k_143 rfl (SCr hS 1 1 3 rfl) ?_
      refine wg_iload_n X 2 dX0_become_27 rfl rfl ?_
      obtain ⟨z5, h⟩ := ck_some h
      refine wg_aalS13 (b := 4 + x2.toNatClampNeg) X (SCi hS 3 13 rfl) (SCl hS 3 8 rfl) z5 (SCp hS (inb_lt z5)).1 dX0_become_28 ?_
      refine wg_aload_n X 1 dX0_become_29 rfl rfl ?_
      refine wg_getR (b := 14) X cl0 (SCi hS 12 0 rfl) 1 (by decide) dX0_become_30 k_143 rfl (SCr hS 12 1 14 rfl) ?_
      refine wg_iload_n X 2 dX0_become_33 rfl rfl ?_
      obtain ⟨z6, h⟩ := ck_some h
      refine wg_aalS13 (b := 15 + x2.toNatClampNeg) X (SCi hS 14 13 rfl) (SCl hS 14 8 rfl) z6 (SCp hS (inb_lt z6)).2.2.1 dX0_become_34 ?_
      obtain ⟨C8, h7, h⟩ := bd_some h
      refine wg_callVv (As := [.ref (ad (15 + x2.toNatClampNeg))]) (rest := []) X (c_X1_become l E ad S hS C M (4 + x2.toNatClampNeg) (15 + x2.toNatClampNeg) ((SCp hS (inb_lt z5)).2.1) ((SCp hS (inb_lt z6)).2.2.2) h7) T_yX1_become k_822 cl1 ((SCp hS (inb_lt z5)).2.1) dX0_become_35 rfl rfl (Nat.le_of_ble_eq_true rfl) ⟨Nat.le_of_ble_eq_true rfl, Nat.le_of_ble_eq_true rfl⟩ ⟨Nat.zero_le _, Nat.zero_le _⟩ ?_
      obtain ⟨v9, e10, h⟩ := lt_some h
      refine wg_iinc (lv' := [(2, .int v9), (0, .ref (ad 1)), (1, .ref (ad 12))]) X 2 dX0_become_38 rfl e10 (by decide) rfl ?_
      refine wg_goto X 17 dX0_become_41 (by decide) ?_
      refine wg_pick [1, 2, 0] (lv' := [(0, .ref (ad 1)), (1, .ref (ad 12)), (2, .int v9)]) rfl ?_
      exact Kc C8 v9 (sm_inj h).symm
set_option maxHeartbeats 4000000 in
set_option maxRecDepth 100000 in
theorem c_X0_become_i1 (l : Launch) (E : wg_Ev) (ad : Nat → Nat) (S : wg_Sh) (hS : wg_SC S) (N : Nat) (C : wg_C) (M : wg_M)   {D0 : wg_C} (h : f_X0_become_i1 N C  = some D0) : wg_Cv l yX0_become cX0_become 3 none 1 21 E ad S C M [.ref (ad 1), .ref (ad 12)] D0 M := by
  refine wg_start (own := RX0) (by decide +kernel) rfl (Nat.le_of_ble_eq_true rfl) ?_
  intro p e s m below meth c X hr hnm
  refine wg_lv (lv' := [(0, .ref (ad 1)), (1, .ref (ad 12))]) rfl ?_
  unfold f_X0_become_i1 at h
  refine wg_aload_n X 1 dX0_become_0 rfl rfl ?_
  refine wg_getR (b := 13) X cl0 (SCi hS 12 0 rfl) 0 (by decide) dX0_become_1 k_140 rfl (SCr hS 12 0 13 rfl) ?_
  refine wg_iconst (v := 0) X dX0_become_4 (by decide) ?_
  refine wg_aload_n X 0 dX0_become_5 rfl rfl ?_
  refine wg_getR (b := 2) X cl0 (SCi hS 1 0 rfl) 0 (by decide) dX0_become_6 k_140 rfl (SCr hS 1 0 2 rfl) ?_
  refine wg_iconst (v := 0) X dX0_become_9 (by decide) ?_
  refine wg_bipush (v := 32) X dX0_become_10 (by decide) ?_
  obtain ⟨z1, h⟩ := ck_some h
  obtain ⟨C2, e3, h⟩ := lt_some h
  refine wg_acopy X (SCi hS 13 10 rfl) (SCl hS 13 32 rfl) (SCi hS 2 10 rfl) (SCl hS 2 32 rfl) k_821 z1.1 z1.2.1 z1.2.2.1 z1.2.2.2.1 z1.2.2.2.2 ⟨Nat.le_of_ble_eq_true rfl, Nat.le_of_ble_eq_true rfl⟩ dX0_become_12 e3 ?_
  refine wg_iconst (v := 0) X dX0_become_15 (by decide) ?_
  refine wg_istore_n (lv' := [(2, .int (0 : Int32)), (0, .ref (ad 1)), (1, .ref (ad 12))]) X dX0_become_16 rfl rfl (by decide) rfl ?_
  obtain ⟨o13, h14, h⟩ := bd2_o h
  refine wg_pick [1, 2, 0] (lv' := [(0, .ref (ad 1)), (1, .ref (ad 12)), (2, .int (0 : Int32))]) rfl ?_
  refine L_X0_become_i1_l17 X hr hS D0 M N     N C2 (0 : Int32) o13 h14 (fun C11 v12 e16 => ?_)
  · subst e16
    replace h := bd2_in h
    refine wg_aload_n X 0 dX0_become_44 rfl rfl ?_
    refine wg_aload_n X 1 dX0_become_45 rfl rfl ?_
    refine wg_getC X cl0 (SCi hS 12 0 rfl) 2 (by decide) dX0_become_46 k_146 rfl ?_
    obtain ⟨C17, e18, h⟩ := lt_some h
    refine wg_putCe X cl0 (SCi hS 1 0 rfl) 2 (by decide) dX0_become_49 k_146 rfl rfl rfl rfl e18 ?_
    refine wg_aload_n X 0 dX0_become_52 rfl rfl ?_
    refine wg_aload_n X 1 dX0_become_53 rfl rfl ?_
    refine wg_getC X cl0 (SCi hS 12 0 rfl) 3 (by decide) dX0_become_54 k_149 rfl ?_
    obtain ⟨C19, e20, h⟩ := lt_some h
    refine wg_putCe X cl0 (SCi hS 1 0 rfl) 3 (by decide) dX0_become_57 k_149 rfl rfl rfl rfl e20 ?_
    exact wg_vret X ⟨(sm_inj h), rfl⟩ hr dX0_become_60
-- WindowsGive.back()I (('c', 0),)
def f_X8_back (N : Nat) (C : wg_C)  : Option (Int32 × wg_C) :=
  if (C 0 2) = 0 then (
    some ((-3 : Int32), C))
  else (
    bd (f_X0_become_i1 N C ) fun C3 =>
    some ((C3 1 2), C3))
set_option maxHeartbeats 4000000 in
set_option maxRecDepth 100000 in
theorem c_X8_back (l : Launch) (E : wg_Ev) (ad : Nat → Nat) (S : wg_Sh) (hS : wg_SC S) (N : Nat) (C : wg_C) (M : wg_M)   {r0 : Int32} {D0 : wg_C} (h : f_X8_back N C  = some (r0, D0)) : wg_Ci l yX8_back cX8_back 1 (some .int) 2 43 E ad S C M [.ref (ad 0)] r0 D0 M := by
  refine wg_start (own := RX8) (by decide +kernel) rfl (Nat.le_of_ble_eq_true rfl) ?_
  intro p e s m below meth c X hr hnm
  refine wg_lv (lv' := [(0, .ref (ad 0))]) rfl ?_
  unfold f_X8_back at h
  refine wg_aload_n X 0 dX8_back_0 rfl rfl ?_
  refine wg_getC X cl8 (SCi hS 0 8 rfl) 2 (by decide) dX8_back_1 k_474 rfl ?_
  refine wg_if_ne X 10 dX8_back_4 (by decide) (fun c1 => ?_) (fun c1 => ?_)
  · have h := if_f c1 h
    refine wg_aload_n X 0 dX8_back_10 rfl rfl ?_
    refine wg_getR (b := 1) X cl8 (SCi hS 0 8 rfl) 0 (by decide) dX8_back_11 k_472 rfl (SCr hS 0 0 1 rfl) ?_
    refine wg_aload_n X 0 dX8_back_14 rfl rfl ?_
    refine wg_getR (b := 12) X cl8 (SCi hS 0 8 rfl) 1 (by decide) dX8_back_15 k_473 rfl (SCr hS 0 1 12 rfl) ?_
    obtain ⟨C3, h2, h⟩ := bd_some h
    refine wg_callVv (As := [.ref (ad 12)]) (rest := []) X (c_X0_become_i1 l E ad S hS N C M   h2) T_yX0_become k_817 cl0 (SCi hS 1 0 rfl) dX8_back_18 rfl rfl (Nat.le_of_ble_eq_true rfl) ⟨Nat.le_of_ble_eq_true rfl, Nat.le_of_ble_eq_true rfl⟩ ⟨Nat.zero_le _, Nat.zero_le _⟩ ?_
    refine wg_aload_n X 0 dX8_back_21 rfl rfl ?_
    refine wg_getR (b := 1) X cl8 (SCi hS 0 8 rfl) 0 (by decide) dX8_back_22 k_472 rfl (SCr hS 0 0 1 rfl) ?_
    refine wg_getC X cl0 (SCi hS 1 0 rfl) 2 (by decide) dX8_back_25 k_147 rfl ?_
    exact wg_iret X ⟨(Prod.mk.inj (sm_inj h)).1, (Prod.mk.inj (sm_inj h)).2, rfl⟩ hr dX8_back_28
  · have h := if_t c1 h
    refine wg_bipush (v := -3) X dX8_back_7 (by decide) ?_
    exact wg_iret X ⟨(Prod.mk.inj (sm_inj h)).1, (Prod.mk.inj (sm_inj h)).2, rfl⟩ hr dX8_back_9
-- WindowsGive$House.weatherTogether()I (('c', 1),)
def f_X0_weatherTogether_l4 (N : Nat) (C : wg_C)   (x1 : Int32) (x2 : Int32) : Option ((Int32 × Int32) ⊕ (Int32 × Int32)) :=
  if (32 : Int32) ≤ x2 then (
    some (.inr (x1, x2)))
  else (
    ck (inb x2 32) <|
    lt_ (x1 + (C 2 x2.toNatClampNeg)) fun v3 =>
    lt_ (x2 + (1 : Int32)) fun v5 =>
    some (.inl (v3, v5)))
def f_X0_weatherTogether (N : Nat) (C : wg_C)  : Option Int32 :=
  bd2 (lp (fun o => f_X0_weatherTogether_l4 N C   o.1 o.2) N ((0 : Int32), (0 : Int32))) fun v7 v8 =>
  some v7
abbrev G_X0_weatherTogether (p : Program) (l : Launch) (e : Env) (s : State) (m : MethodId) (args : Array Value) (below : List Frame) (meth : Method) (c : Code) (E : wg_Ev) (ad : Nat → Nat) (S : wg_Sh) (r0 : Int32) (C0 : wg_C) (M0 : wg_M) (pc : Nat) (C : wg_C) (M : wg_M) (lv : List (Nat × Value)) (st : List Value) : Prop := wg_G p l e (wg_Rm 0 0) s m args below meth c (MQ below (wg_Qi E ad S r0 C0 M0) args s 0 0 (wg_A E)) 3 E ad S 0 0 pc C M lv st
set_option maxHeartbeats 4000000 in
set_option maxRecDepth 100000 in
theorem L_X0_weatherTogether_l4 {p : Program} {l : Launch} {e : Env} {s : State} {m : MethodId} {args : Array Value} {below : List Frame} {meth : Method} {c : Code} {E : wg_Ev} {ad : Nat → Nat} {S : wg_Sh} (X : wg_X p s m args meth c cX0_weatherTogether 3 RX0 E) (hr : meth.sig.returnType = (some .int)) (hS : wg_SC S) (r0 : Int32) (M : wg_M) (N : Nat)  (C : wg_C)    : ∀ (n : Nat) (x1 : Int32) (x2 : Int32) (o : (Int32 × Int32)), lp (fun o => f_X0_weatherTogether_l4 N C   o.1 o.2) n (x1, x2) = some o → (∀ (y1 : Int32) (y2 : Int32), o = (y1, y2) → G_X0_weatherTogether p l e s m args below meth c E ad S r0 C M 25 C M [(0, .ref (ad 1)), (1, .int y1), (2, .int y2)] []) → G_X0_weatherTogether p l e s m args below meth c E ad S r0 C M 4 C M [(0, .ref (ad 1)), (1, .int x1), (2, .int x2)] [] := by
  intro n
  induction n with
  | zero => exact fun _ _ o h => (lp_zero h).elim
  | succ n ih =>
    intro x1 x2 o h K
    obtain ⟨o1, hb, h2⟩ := lp_some h
    replace hb : f_X0_weatherTogether_l4 N C   x1 x2 = some o1 := hb
    clear h
    have Kc : ∀ (y1 : Int32) (y2 : Int32), o1 = Sum.inl (y1, y2) → G_X0_weatherTogether p l e s m args below meth c E ad S r0 C M 4 C M [(0, .ref (ad 1)), (1, .int y1), (2, .int y2)] [] := fun y1 y2 e1 => by
      subst e1
      exact ih y1 y2 o h2 K
    have Ke : ∀ (y1 : Int32) (y2 : Int32), o1 = Sum.inr ((y1, y2)) → G_X0_weatherTogether p l e s m args below meth c E ad S r0 C M 25 C M [(0, .ref (ad 1)), (1, .int y1), (2, .int y2)] [] := fun y1 y2 e1 => by
      subst e1
      exact K y1 y2 (sm_inj (α := (Int32 × Int32)) h2).symm
    clear ih K h2
    unfold f_X0_weatherTogether_l4 at hb
    have h := hb
    clear hb
    refine wg_iload_n X 2 dX0_weatherTogether_4 rfl rfl ?_
    refine wg_bipush (v := 32) X dX0_weatherTogether_5 (by decide) ?_
    refine wg_icmp_ge X 25 dX0_weatherTogether_7 (by decide) (fun c1 => ?_) (fun c1 => ?_)
    · have h := if_t c1 h
      exact Ke x1 x2 (sm_inj h).symm
    · have h := if_f c1 h
      refine wg_iload_n X 1 dX0_weatherTogether_10 rfl rfl ?_
      refine wg_aload_n X 0 dX0_weatherTogether_11 rfl rfl ?_
      refine wg_getR (b := 2) X cl0 (SCi hS 1 0 rfl) 0 (by decide) dX0_weatherTogether_12 k_140 rfl (SCr hS 1 0 2 rfl) ?_
      refine wg_iload_n X 2 dX0_weatherTogether_15 rfl rfl ?_
      obtain ⟨z2, h⟩ := ck_some h
      refine wg_iald X (SCi hS 2 10 rfl) (SCl hS 2 32 rfl) z2 dX0_weatherTogether_16 ?_
      refine wg_iadd X dX0_weatherTogether_17 ?_
      obtain ⟨v3, e4, h⟩ := lt_some h
      refine wg_istore_n (lv' := [(1, .int v3), (0, .ref (ad 1)), (2, .int x2)]) X dX0_weatherTogether_18 rfl e4 (by decide) rfl ?_
      obtain ⟨v5, e6, h⟩ := lt_some h
      refine wg_iinc (lv' := [(2, .int v5), (1, .int v3), (0, .ref (ad 1))]) X 2 dX0_weatherTogether_19 rfl e6 (by decide) rfl ?_
      refine wg_goto X 4 dX0_weatherTogether_22 (by decide) ?_
      refine wg_pick [2, 1, 0] (lv' := [(0, .ref (ad 1)), (1, .int v3), (2, .int v5)]) rfl ?_
      exact Kc v3 v5 (sm_inj h).symm
set_option maxHeartbeats 4000000 in
set_option maxRecDepth 100000 in
theorem c_X0_weatherTogether (l : Launch) (E : wg_Ev) (ad : Nat → Nat) (S : wg_Sh) (hS : wg_SC S) (N : Nat) (C : wg_C) (M : wg_M)   {r0 : Int32} (h : f_X0_weatherTogether N C  = some r0) : wg_Ci l yX0_weatherTogether cX0_weatherTogether 3 (some .int) 0 0 E ad S C M [.ref (ad 1)] r0 C M := by
  refine wg_start (own := RX0) (by decide +kernel) rfl (Nat.le_of_ble_eq_true rfl) ?_
  intro p e s m below meth c X hr hnm
  refine wg_lv (lv' := [(0, .ref (ad 1))]) rfl ?_
  unfold f_X0_weatherTogether at h
  refine wg_iconst (v := 0) X dX0_weatherTogether_0 (by decide) ?_
  refine wg_istore_n (lv' := [(1, .int (0 : Int32)), (0, .ref (ad 1))]) X dX0_weatherTogether_1 rfl rfl (by decide) rfl ?_
  refine wg_iconst (v := 0) X dX0_weatherTogether_2 (by decide) ?_
  refine wg_istore_n (lv' := [(2, .int (0 : Int32)), (1, .int (0 : Int32)), (0, .ref (ad 1))]) X dX0_weatherTogether_3 rfl rfl (by decide) rfl ?_
  obtain ⟨o9, h10, h⟩ := bd2_o h
  refine wg_pick [2, 1, 0] (lv' := [(0, .ref (ad 1)), (1, .int (0 : Int32)), (2, .int (0 : Int32))]) rfl ?_
  refine L_X0_weatherTogether_l4 X hr hS r0 M N  C    N (0 : Int32) (0 : Int32) o9 h10 (fun v7 v8 e12 => ?_)
  · subst e12
    replace h := bd2_in h
    refine wg_iload_n X 1 dX0_weatherTogether_25 rfl rfl ?_
    exact wg_iret X ⟨(sm_inj h), rfl, rfl⟩ hr dX0_weatherTogether_26
-- WindowsGive.count(I)I (('c', 0), 'i')
def f_X8_count (N : Nat) (C : wg_C) (p1 : Int32) : Option Int32 :=
  if p1 = (0 : Int32) then (
    some (C 1 2))
  else
  if p1 = (1 : Int32) then (
    some (C 31 1))
  else
  if p1 = (2 : Int32) then (
    some (C 23 1))
  else
  if p1 = (3 : Int32) then (
    some (C 1 3))
  else
  if p1 = (4 : Int32) then (
    bd (f_X0_weatherTogether N C ) fun r7 =>
    some r7)
  else
  some (-2 : Int32)
set_option maxHeartbeats 4000000 in
set_option maxRecDepth 100000 in
theorem c_X8_count (l : Launch) (E : wg_Ev) (ad : Nat → Nat) (S : wg_Sh) (hS : wg_SC S) (N : Nat) (C : wg_C) (M : wg_M) (p1 : Int32)  {r0 : Int32} (h : f_X8_count N C p1 = some r0) : wg_Ci l yX8_count cX8_count 2 (some .int) 1 22 E ad S C M [.ref (ad 0), .int p1] r0 C M := by
  refine wg_start (own := RX8) (by decide +kernel) rfl (Nat.le_of_ble_eq_true rfl) ?_
  intro p e s m below meth c X hr hnm
  refine wg_lv (lv' := [(0, .ref (ad 0)), (1, .int p1)]) rfl ?_
  unfold f_X8_count at h
  refine wg_iload_n X 1 dX8_count_0 rfl rfl ?_
  by_cases c1 : p1 = (0 : Int32)
  · have h := if_t c1 h
    refine wg_tblIn (off := 35) X 36 dX8_count_1 c1 (by decide) (by decide) (by decide) (by decide) ?_
    refine wg_aload_n X 0 dX8_count_36 rfl rfl ?_
    refine wg_getR (b := 1) X cl8 (SCi hS 0 8 rfl) 0 (by decide) dX8_count_37 k_472 rfl (SCr hS 0 0 1 rfl) ?_
    refine wg_getC X cl0 (SCi hS 1 0 rfl) 2 (by decide) dX8_count_40 k_147 rfl ?_
    exact wg_iret X ⟨(sm_inj h), rfl, rfl⟩ hr dX8_count_43
  have h := if_f c1 h
  by_cases c2 : p1 = (1 : Int32)
  · have h := if_t c2 h
    refine wg_tblIn (off := 43) X 44 dX8_count_1 c2 (by decide) (by decide) (by decide) (by decide) ?_
    refine wg_aload_n X 0 dX8_count_44 rfl rfl ?_
    refine wg_getR (b := 31) X cl8 (SCi hS 0 8 rfl) 5 (by decide) dX8_count_45 k_477 rfl (SCr hS 0 5 31 rfl) ?_
    refine wg_getC X cl3 (SCi hS 31 3 rfl) 1 (by decide) dX8_count_48 k_230 rfl ?_
    exact wg_iret X ⟨(sm_inj h), rfl, rfl⟩ hr dX8_count_51
  have h := if_f c2 h
  by_cases c3 : p1 = (2 : Int32)
  · have h := if_t c3 h
    refine wg_tblIn (off := 51) X 52 dX8_count_1 c3 (by decide) (by decide) (by decide) (by decide) ?_
    refine wg_aload_n X 0 dX8_count_52 rfl rfl ?_
    refine wg_getR (b := 23) X cl8 (SCi hS 0 8 rfl) 3 (by decide) dX8_count_53 k_475 rfl (SCr hS 0 3 23 rfl) ?_
    refine wg_getC X cl5 (SCi hS 23 5 rfl) 1 (by decide) dX8_count_56 k_169 rfl ?_
    exact wg_iret X ⟨(sm_inj h), rfl, rfl⟩ hr dX8_count_59
  have h := if_f c3 h
  by_cases c4 : p1 = (3 : Int32)
  · have h := if_t c4 h
    refine wg_tblIn (off := 59) X 60 dX8_count_1 c4 (by decide) (by decide) (by decide) (by decide) ?_
    refine wg_aload_n X 0 dX8_count_60 rfl rfl ?_
    refine wg_getR (b := 1) X cl8 (SCi hS 0 8 rfl) 0 (by decide) dX8_count_61 k_472 rfl (SCr hS 0 0 1 rfl) ?_
    refine wg_getC X cl0 (SCi hS 1 0 rfl) 3 (by decide) dX8_count_64 k_151 rfl ?_
    exact wg_iret X ⟨(sm_inj h), rfl, rfl⟩ hr dX8_count_67
  have h := if_f c4 h
  by_cases c5 : p1 = (4 : Int32)
  · have h := if_t c5 h
    refine wg_tblIn (off := 67) X 68 dX8_count_1 c5 (by decide) (by decide) (by decide) (by decide) ?_
    refine wg_aload_n X 0 dX8_count_68 rfl rfl ?_
    refine wg_getR (b := 1) X cl8 (SCi hS 0 8 rfl) 0 (by decide) dX8_count_69 k_472 rfl (SCr hS 0 0 1 rfl) ?_
    obtain ⟨r7, h6, h⟩ := bd_some h
    refine wg_callVi (As := []) (rest := []) X (c_X0_weatherTogether l E ad S hS N C M   h6) T_yX0_weatherTogether k_831 cl0 (SCi hS 1 0 rfl) dX8_count_72 rfl rfl (Nat.le_of_ble_eq_true rfl) ⟨Nat.le_of_ble_eq_true rfl, Nat.le_of_ble_eq_true rfl⟩ ⟨Nat.zero_le _, Nat.zero_le _⟩ ?_
    exact wg_iret X ⟨(sm_inj h), rfl, rfl⟩ hr dX8_count_75
  have h := if_f c5 h
  refine wg_tblOut X 76 dX8_count_1 (wg_tout (0) (4) (fun k hk => by
      rcases (show k = 0 ∨ k = 1 ∨ k = 2 ∨ k = 3 ∨ k = 4 by omega) with rfl | rfl | rfl | rfl | rfl
      · exact fun q => c1 (q.trans (by decide))
      · exact fun q => c2 (q.trans (by decide))
      · exact fun q => c3 (q.trans (by decide))
      · exact fun q => c4 (q.trans (by decide))
      · exact fun q => c5 (q.trans (by decide))) (by decide) (by decide)) (by decide) ?_
  refine wg_bipush (v := -2) X dX8_count_76 (by decide) ?_
  exact wg_iret X ⟨(sm_inj h), rfl, rfl⟩ hr dX8_count_78
-- WindowsGive.isRowSort(I)Z ('i',)
def f_X8_isRowSort (p0 : Int32) : Option Int32 :=
  if p0 < 0 then (
    some (0 : Int32))
  else (
    if (2 : Int32) < p0 then (
      some (0 : Int32))
    else (
      some (1 : Int32)))
set_option maxHeartbeats 4000000 in
set_option maxRecDepth 100000 in
theorem c_X8_isRowSort (l : Launch) (E : wg_Ev) (ad : Nat → Nat) (S : wg_Sh) (C : wg_C) (M : wg_M) (p0 : Int32)  {r0 : Int32} (h : f_X8_isRowSort p0 = some r0) : wg_Ci l yX8_isRowSort cX8_isRowSort 1 (some .boolean) 0 0 E ad S C M [.int p0] r0 C M := by
  refine wg_start (own := RX8) (by decide +kernel) rfl (Nat.le_of_ble_eq_true rfl) ?_
  intro p e s m below meth c X hr hnm
  refine wg_lv (lv' := [(0, .int p0)]) rfl ?_
  unfold f_X8_isRowSort at h
  refine wg_iload_n X 0 dX8_isRowSort_0 rfl rfl ?_
  refine wg_if_lt X 13 dX8_isRowSort_1 (by decide) (fun c1 => ?_) (fun c1 => ?_)
  · have h := if_t c1 h
    refine wg_iconst (v := 0) X dX8_isRowSort_13 (by decide) ?_
    exact wg_zret X ⟨(sm_inj h), rfl, rfl⟩ hr (by decide) dX8_isRowSort_14
  · have h := if_f c1 h
    refine wg_iload_n X 0 dX8_isRowSort_4 rfl rfl ?_
    refine wg_iconst (v := 2) X dX8_isRowSort_5 (by decide) ?_
    refine wg_icmp_gt X 13 dX8_isRowSort_6 (by decide) (fun c2 => ?_) (fun c2 => ?_)
    · have h := if_t c2 h
      refine wg_iconst (v := 0) X dX8_isRowSort_13 (by decide) ?_
      exact wg_zret X ⟨(sm_inj h), rfl, rfl⟩ hr (by decide) dX8_isRowSort_14
    · have h := if_f c2 h
      refine wg_iconst (v := 1) X dX8_isRowSort_9 (by decide) ?_
      refine wg_goto X 14 dX8_isRowSort_10 (by decide) ?_
      exact wg_zret X ⟨(sm_inj h), rfl, rfl⟩ hr (by decide) dX8_isRowSort_14
-- WindowsGive.sheet(III)I (('c', 0), 'i', 'i', 'i')
def f_X8_sheet_j22 (N : Nat) (C : wg_C)  (x1 : Int32) (x2 : Int32) (x3 : Int32) : Option (Int32 × wg_C) :=
  if x2 = (-1 : Int32) then (
    ck (inb x1 4) <|
    bd (f_X4_become N C (44 + 2 * x1.toNatClampNeg) (-1 : Int32) (0 : Int32)) fun C13 =>
    some ((1 : Int32), C13))
  else (
    if x3 ≤ (40 : Int32) then (
      if 0 ≤ x3 then (
        ck (inb x1 4) <|
        bd (f_X4_become N C (44 + 2 * x1.toNatClampNeg) x2 x3) fun C10 =>
        some ((1 : Int32), C10))
      else (
        some ((-14 : Int32), C)))
    else (
      some ((-2 : Int32), C)))
def f_X8_sheet (N : Nat) (C : wg_C) (p1 : Int32) (p2 : Int32) (p3 : Int32) : Option (Int32 × wg_C) :=
  bd (f_X8_isSheet p1) fun r2 =>
  if r2 = 0 then (
    some ((-2 : Int32), C))
  else (
    if p2 = (-1 : Int32) then (
      f_X8_sheet_j22 N C  p1 p2 p3)
    else (
      bd (f_X8_isRowSort p2) fun r15 =>
      if r15 = 0 then (
        some ((-2 : Int32), C))
      else (
        f_X8_sheet_j22 N C  p1 p2 p3)))
abbrev G_X8_sheet (p : Program) (l : Launch) (e : Env) (s : State) (m : MethodId) (args : Array Value) (below : List Frame) (meth : Method) (c : Code) (E : wg_Ev) (ad : Nat → Nat) (S : wg_Sh) (r0 : Int32) (C0 : wg_C) (M0 : wg_M) (pc : Nat) (C : wg_C) (M : wg_M) (lv : List (Nat × Value)) (st : List Value) : Prop := wg_G p l e (wg_Rm 2 45) s m args below meth c (MQ below (wg_Qi E ad S r0 C0 M0) args s 0 0 (wg_A E)) 4 E ad S 0 0 pc C M lv st
set_option maxHeartbeats 4000000 in
set_option maxRecDepth 100000 in
theorem J_X8_sheet_j22 {p : Program} {l : Launch} {e : Env} {s : State} {m : MethodId} {args : Array Value} {below : List Frame} {meth : Method} {c : Code} {E : wg_Ev} {ad : Nat → Nat} {S : wg_Sh} (X : wg_X p s m args meth c cX8_sheet 4 RX8 E) (hr : meth.sig.returnType = (some .int)) (hS : wg_SC S) (r0 : Int32) (D0 : wg_C) (M : wg_M) (N : Nat)  (C : wg_C)  (x1 : Int32) (x2 : Int32) (x3 : Int32)   (h : f_X8_sheet_j22 N C  x1 x2 x3 = some (r0, D0)) : G_X8_sheet p l e s m args below meth c E ad S r0 D0 M 22 C M [(0, .ref (ad 0)), (1, .int x1), (2, .int x2), (3, .int x3)] [] := by
  unfold f_X8_sheet_j22 at h
  refine wg_iload_n X 2 dX8_sheet_22 rfl rfl ?_
  refine wg_iconst (v := -1) X dX8_sheet_23 (by decide) ?_
  refine wg_icmp_ne X 40 dX8_sheet_24 (by decide) (fun c5 => ?_) (fun c5 => ?_)
  · have h := if_f c5 h
    refine wg_iload_n X 3 dX8_sheet_40 rfl rfl ?_
    refine wg_bipush (v := 40) X dX8_sheet_41 (by decide) ?_
    refine wg_icmp_le X 49 dX8_sheet_43 (by decide) (fun c6 => ?_) (fun c6 => ?_)
    · have h := if_t c6 h
      refine wg_iload_n X 3 dX8_sheet_49 rfl rfl ?_
      refine wg_if_ge X 56 dX8_sheet_50 (by decide) (fun c7 => ?_) (fun c7 => ?_)
      · have h := if_t c7 h
        refine wg_aload_n X 0 dX8_sheet_56 rfl rfl ?_
        refine wg_getR (b := 39) X cl8 (SCi hS 0 8 rfl) 7 (by decide) dX8_sheet_57 k_479 rfl (SCr hS 0 7 39 rfl) ?_
        refine wg_iload_n X 1 dX8_sheet_60 rfl rfl ?_
        obtain ⟨z8, h⟩ := ck_some h
        refine wg_aalS14 (b := 44 + 2 * x1.toNatClampNeg) X (SCi hS 39 14 rfl) (SCl hS 39 4 rfl) z8 (SCs hS (inb_lt z8)).1 dX8_sheet_61 ?_
        refine wg_iload_n X 2 dX8_sheet_62 rfl rfl ?_
        refine wg_iload_n X 3 dX8_sheet_63 rfl rfl ?_
        obtain ⟨C10, h9, h⟩ := bd_some h
        refine wg_callVv (As := [.int x2, .int x3]) (rest := []) X (c_X4_become l E ad S hS N C M (44 + 2 * x1.toNatClampNeg) x2 x3 ((SCs hS (inb_lt z8)).2) h9) T_yX4_become k_753 cl4 ((SCs hS (inb_lt z8)).2.1) dX8_sheet_64 rfl rfl (Nat.le_of_ble_eq_true rfl) ⟨Nat.le_of_ble_eq_true rfl, Nat.le_of_ble_eq_true rfl⟩ ⟨Nat.zero_le _, Nat.zero_le _⟩ ?_
        refine wg_iconst (v := 1) X dX8_sheet_67 (by decide) ?_
        exact wg_iret X ⟨(Prod.mk.inj (sm_inj h)).1, (Prod.mk.inj (sm_inj h)).2, rfl⟩ hr dX8_sheet_68
      · have h := if_f c7 h
        refine wg_bipush (v := -14) X dX8_sheet_53 (by decide) ?_
        exact wg_iret X ⟨(Prod.mk.inj (sm_inj h)).1, (Prod.mk.inj (sm_inj h)).2, rfl⟩ hr dX8_sheet_55
    · have h := if_f c6 h
      refine wg_bipush (v := -2) X dX8_sheet_46 (by decide) ?_
      exact wg_iret X ⟨(Prod.mk.inj (sm_inj h)).1, (Prod.mk.inj (sm_inj h)).2, rfl⟩ hr dX8_sheet_48
  · have h := if_t c5 h
    refine wg_aload_n X 0 dX8_sheet_27 rfl rfl ?_
    refine wg_getR (b := 39) X cl8 (SCi hS 0 8 rfl) 7 (by decide) dX8_sheet_28 k_479 rfl (SCr hS 0 7 39 rfl) ?_
    refine wg_iload_n X 1 dX8_sheet_31 rfl rfl ?_
    obtain ⟨z11, h⟩ := ck_some h
    refine wg_aalS14 (b := 44 + 2 * x1.toNatClampNeg) X (SCi hS 39 14 rfl) (SCl hS 39 4 rfl) z11 (SCs hS (inb_lt z11)).1 dX8_sheet_32 ?_
    refine wg_iconst (v := -1) X dX8_sheet_33 (by decide) ?_
    refine wg_iconst (v := 0) X dX8_sheet_34 (by decide) ?_
    obtain ⟨C13, h12, h⟩ := bd_some h
    refine wg_callVv (As := [.int (-1 : Int32), .int (0 : Int32)]) (rest := []) X (c_X4_become l E ad S hS N C M (44 + 2 * x1.toNatClampNeg) (-1 : Int32) (0 : Int32) ((SCs hS (inb_lt z11)).2) h12) T_yX4_become k_753 cl4 ((SCs hS (inb_lt z11)).2.1) dX8_sheet_35 rfl rfl (Nat.le_of_ble_eq_true rfl) ⟨Nat.le_of_ble_eq_true rfl, Nat.le_of_ble_eq_true rfl⟩ ⟨Nat.zero_le _, Nat.zero_le _⟩ ?_
    refine wg_iconst (v := 1) X dX8_sheet_38 (by decide) ?_
    exact wg_iret X ⟨(Prod.mk.inj (sm_inj h)).1, (Prod.mk.inj (sm_inj h)).2, rfl⟩ hr dX8_sheet_39
set_option maxHeartbeats 4000000 in
set_option maxRecDepth 100000 in
theorem c_X8_sheet (l : Launch) (E : wg_Ev) (ad : Nat → Nat) (S : wg_Sh) (hS : wg_SC S) (N : Nat) (C : wg_C) (M : wg_M) (p1 : Int32) (p2 : Int32) (p3 : Int32)  {r0 : Int32} {D0 : wg_C} (h : f_X8_sheet N C p1 p2 p3 = some (r0, D0)) : wg_Ci l yX8_sheet cX8_sheet 4 (some .int) 2 45 E ad S C M [.ref (ad 0), .int p1, .int p2, .int p3] r0 D0 M := by
  refine wg_start (own := RX8) (by decide +kernel) rfl (Nat.le_of_ble_eq_true rfl) ?_
  intro p e s m below meth c X hr hnm
  refine wg_lv (lv' := [(0, .ref (ad 0)), (1, .int p1), (2, .int p2), (3, .int p3)]) rfl ?_
  unfold f_X8_sheet at h
  refine wg_iload_n X 1 dX8_sheet_0 rfl rfl ?_
  obtain ⟨r2, h1, h⟩ := bd_some h
  refine wg_callSi (As := [.int p1]) (rest := []) X (c_X8_isSheet l E ad S C M p1  h1) T_yX8_isSheet k_711 dX8_sheet_1 rfl rfl (Nat.le_of_ble_eq_true rfl) ⟨Nat.le_of_ble_eq_true rfl, Nat.le_of_ble_eq_true rfl⟩ ⟨Nat.zero_le _, Nat.zero_le _⟩ ?_
  refine wg_if_eq X 19 dX8_sheet_4 (by decide) (fun c3 => ?_) (fun c3 => ?_)
  · have h := if_t c3 h
    refine wg_bipush (v := -2) X dX8_sheet_19 (by decide) ?_
    exact wg_iret X ⟨(Prod.mk.inj (sm_inj h)).1, (Prod.mk.inj (sm_inj h)).2, rfl⟩ hr dX8_sheet_21
  · have h := if_f c3 h
    refine wg_iload_n X 2 dX8_sheet_7 rfl rfl ?_
    refine wg_iconst (v := -1) X dX8_sheet_8 (by decide) ?_
    refine wg_icmp_eq X 22 dX8_sheet_9 (by decide) (fun c4 => ?_) (fun c4 => ?_)
    · have h := if_t c4 h
      exact J_X8_sheet_j22 X hr hS r0 D0 M N  C  p1 p2 p3   h
    · have h := if_f c4 h
      refine wg_iload_n X 2 dX8_sheet_12 rfl rfl ?_
      obtain ⟨r15, h14, h⟩ := bd_some h
      refine wg_callSi (As := [.int p2]) (rest := []) X (c_X8_isRowSort l E ad S C M p2  h14) T_yX8_isRowSort k_839 dX8_sheet_13 rfl rfl (Nat.le_of_ble_eq_true rfl) ⟨Nat.le_of_ble_eq_true rfl, Nat.le_of_ble_eq_true rfl⟩ ⟨Nat.zero_le _, Nat.zero_le _⟩ ?_
      refine wg_if_ne X 22 dX8_sheet_16 (by decide) (fun c16 => ?_) (fun c16 => ?_)
      · have h := if_f c16 h
        exact J_X8_sheet_j22 X hr hS r0 D0 M N  C  p1 p2 p3   h
      · have h := if_t c16 h
        refine wg_bipush (v := -2) X dX8_sheet_19 (by decide) ?_
        exact wg_iret X ⟨(Prod.mk.inj (sm_inj h)).1, (Prod.mk.inj (sm_inj h)).2, rfl⟩ hr dX8_sheet_21
-- WindowsGive$Sheet.has(I)Z ('SH', 'i')
def f_X4_has (C : wg_C) (p0 : Nat) (p1 : Int32) : Option Int32 :=
  if p1 < 0 then (
    some (0 : Int32))
  else (
    if (C p0 2) ≤ p1 then (
      some (0 : Int32))
    else (
      some (1 : Int32)))
set_option maxHeartbeats 4000000 in
set_option maxRecDepth 100000 in
theorem c_X4_has (l : Launch) (E : wg_Ev) (ad : Nat → Nat) (S : wg_Sh) (hS : wg_SC S) (C : wg_C) (M : wg_M) (p0 : Nat) (p1 : Int32) (hp0 : wg_Sht S p0) {r0 : Int32} (h : f_X4_has C p0 p1 = some r0) : wg_Ci l yX4_has cX4_has 2 (some .boolean) 0 0 E ad S C M [.ref (ad p0), .int p1] r0 C M := by
  refine wg_start (own := RX4) (by decide +kernel) rfl (Nat.le_of_ble_eq_true rfl) ?_
  intro p e s m below meth c X hr hnm
  refine wg_lv (lv' := [(0, .ref (ad p0)), (1, .int p1)]) rfl ?_
  unfold f_X4_has at h
  refine wg_iload_n X 1 dX4_has_0 rfl rfl ?_
  refine wg_if_lt X 16 dX4_has_1 (by decide) (fun c1 => ?_) (fun c1 => ?_)
  · have h := if_t c1 h
    refine wg_iconst (v := 0) X dX4_has_16 (by decide) ?_
    exact wg_zret X ⟨(sm_inj h), rfl, rfl⟩ hr (by decide) dX4_has_17
  · have h := if_f c1 h
    refine wg_iload_n X 1 dX4_has_4 rfl rfl ?_
    refine wg_aload_n X 0 dX4_has_5 rfl rfl ?_
    refine wg_getC X cl4 hp0.1 2 (by decide) dX4_has_6 k_273 rfl ?_
    refine wg_icmp_ge X 16 dX4_has_9 (by decide) (fun c2 => ?_) (fun c2 => ?_)
    · have h := if_t c2 h
      refine wg_iconst (v := 0) X dX4_has_16 (by decide) ?_
      exact wg_zret X ⟨(sm_inj h), rfl, rfl⟩ hr (by decide) dX4_has_17
    · have h := if_f c2 h
      refine wg_iconst (v := 1) X dX4_has_12 (by decide) ?_
      refine wg_goto X 17 dX4_has_13 (by decide) ?_
      exact wg_zret X ⟨(sm_inj h), rfl, rfl⟩ hr (by decide) dX4_has_17
-- WindowsGive.cell(III)I (('c', 0), 'i', 'i', 'i')
def f_X8_cell (C : wg_C) (p1 : Int32) (p2 : Int32) (p3 : Int32) : Option (Int32 × wg_C) :=
  bd (f_X8_isSheet p1) fun r2 =>
  if r2 = 0 then (
    some ((-2 : Int32), C))
  else (
    ck (inb p1 4) <|
    bd (f_X4_isMissing C (44 + 2 * p1.toNatClampNeg)) fun r6 =>
    if r6 = 0 then (
      bd (f_X4_has C (44 + 2 * p1.toNatClampNeg) p2) fun r9 =>
      if r9 = 0 then (
        some ((-12 : Int32), C))
      else (
        bd (f_X4_put C (44 + 2 * p1.toNatClampNeg) p2 p3) fun C12 =>
        some ((1 : Int32), C12)))
    else (
      some ((-11 : Int32), C)))
set_option maxHeartbeats 4000000 in
set_option maxRecDepth 100000 in
theorem c_X8_cell (l : Launch) (E : wg_Ev) (ad : Nat → Nat) (S : wg_Sh) (hS : wg_SC S) (C : wg_C) (M : wg_M) (p1 : Int32) (p2 : Int32) (p3 : Int32)  {r0 : Int32} {D0 : wg_C} (h : f_X8_cell C p1 p2 p3 = some (r0, D0)) : wg_Ci l yX8_cell cX8_cell 5 (some .int) 1 22 E ad S C M [.ref (ad 0), .int p1, .int p2, .int p3] r0 D0 M := by
  refine wg_start (own := RX8) (by decide +kernel) rfl (Nat.le_of_ble_eq_true rfl) ?_
  intro p e s m below meth c X hr hnm
  refine wg_lv (lv' := [(0, .ref (ad 0)), (1, .int p1), (2, .int p2), (3, .int p3)]) rfl ?_
  unfold f_X8_cell at h
  refine wg_iload_n X 1 dX8_cell_0 rfl rfl ?_
  obtain ⟨r2, h1, h⟩ := bd_some h
  refine wg_callSi (As := [.int p1]) (rest := []) X (c_X8_isSheet l E ad S C M p1  h1) T_yX8_isSheet k_711 dX8_cell_1 rfl rfl (Nat.le_of_ble_eq_true rfl) ⟨Nat.le_of_ble_eq_true rfl, Nat.le_of_ble_eq_true rfl⟩ ⟨Nat.zero_le _, Nat.zero_le _⟩ ?_
  refine wg_if_ne X 10 dX8_cell_4 (by decide) (fun c3 => ?_) (fun c3 => ?_)
  · have h := if_f c3 h
    refine wg_aload_n X 0 dX8_cell_10 rfl rfl ?_
    refine wg_getR (b := 39) X cl8 (SCi hS 0 8 rfl) 7 (by decide) dX8_cell_11 k_479 rfl (SCr hS 0 7 39 rfl) ?_
    refine wg_iload_n X 1 dX8_cell_14 rfl rfl ?_
    obtain ⟨z4, h⟩ := ck_some h
    refine wg_aalS14 (b := 44 + 2 * p1.toNatClampNeg) X (SCi hS 39 14 rfl) (SCl hS 39 4 rfl) z4 (SCs hS (inb_lt z4)).1 dX8_cell_15 ?_
    refine wg_astore (lv' := [(4, .ref (ad (44 + 2 * p1.toNatClampNeg))), (0, .ref (ad 0)), (1, .int p1), (2, .int p2), (3, .int p3)]) X dX8_cell_16 rfl (by decide) rfl ?_
    refine wg_aload X 0 dX8_cell_18 rfl ?_
    obtain ⟨r6, h5, h⟩ := bd_some h
    refine wg_callVi (As := []) (rest := []) X (c_X4_isMissing l E ad S hS C M (44 + 2 * p1.toNatClampNeg) ((SCs hS (inb_lt z4)).2) h5) T_yX4_isMissing k_714 cl4 ((SCs hS (inb_lt z4)).2.1) dX8_cell_20 rfl rfl (Nat.le_of_ble_eq_true rfl) ⟨Nat.le_of_ble_eq_true rfl, Nat.le_of_ble_eq_true rfl⟩ ⟨Nat.zero_le _, Nat.zero_le _⟩ ?_
    refine wg_if_eq X 29 dX8_cell_23 (by decide) (fun c7 => ?_) (fun c7 => ?_)
    · have h := if_t c7 h
      refine wg_aload X 0 dX8_cell_29 rfl ?_
      refine wg_iload_n X 3 dX8_cell_31 rfl rfl ?_
      obtain ⟨r9, h8, h⟩ := bd_some h
      refine wg_callVi (As := [.int p2]) (rest := []) X (c_X4_has l E ad S hS C M (44 + 2 * p1.toNatClampNeg) p2 ((SCs hS (inb_lt z4)).2) h8) T_yX4_has k_846 cl4 ((SCs hS (inb_lt z4)).2.1) dX8_cell_32 rfl rfl (Nat.le_of_ble_eq_true rfl) ⟨Nat.le_of_ble_eq_true rfl, Nat.le_of_ble_eq_true rfl⟩ ⟨Nat.zero_le _, Nat.zero_le _⟩ ?_
      refine wg_if_ne X 41 dX8_cell_35 (by decide) (fun c10 => ?_) (fun c10 => ?_)
      · have h := if_f c10 h
        refine wg_aload X 0 dX8_cell_41 rfl ?_
        refine wg_iload_n X 3 dX8_cell_43 rfl rfl ?_
        refine wg_iload_n X 4 dX8_cell_44 rfl rfl ?_
        obtain ⟨C12, h11, h⟩ := bd_some h
        refine wg_callVv (As := [.int p2, .int p3]) (rest := []) X (c_X4_put l E ad S hS C M (44 + 2 * p1.toNatClampNeg) p2 p3 ((SCs hS (inb_lt z4)).2) h11) T_yX4_put k_758 cl4 ((SCs hS (inb_lt z4)).2.1) dX8_cell_45 rfl rfl (Nat.le_of_ble_eq_true rfl) ⟨Nat.le_of_ble_eq_true rfl, Nat.le_of_ble_eq_true rfl⟩ ⟨Nat.zero_le _, Nat.zero_le _⟩ ?_
        refine wg_iconst (v := 1) X dX8_cell_48 (by decide) ?_
        exact wg_iret X ⟨(Prod.mk.inj (sm_inj h)).1, (Prod.mk.inj (sm_inj h)).2, rfl⟩ hr dX8_cell_49
      · have h := if_t c10 h
        refine wg_bipush (v := -12) X dX8_cell_38 (by decide) ?_
        exact wg_iret X ⟨(Prod.mk.inj (sm_inj h)).1, (Prod.mk.inj (sm_inj h)).2, rfl⟩ hr dX8_cell_40
    · have h := if_f c7 h
      refine wg_bipush (v := -11) X dX8_cell_26 (by decide) ?_
      exact wg_iret X ⟨(Prod.mk.inj (sm_inj h)).1, (Prod.mk.inj (sm_inj h)).2, rfl⟩ hr dX8_cell_28
  · have h := if_t c3 h
    refine wg_bipush (v := -2) X dX8_cell_7 (by decide) ?_
    exact wg_iret X ⟨(Prod.mk.inj (sm_inj h)).1, (Prod.mk.inj (sm_inj h)).2, rfl⟩ hr dX8_cell_9
-- WindowsGive$Sheet.hasRun(II)Z ('SH', 'i', 'i')
def f_X4_hasRun (C : wg_C) (p0 : Nat) (p1 : Int32) (p2 : Int32) : Option Int32 :=
  if p1 < 0 then (
    some (0 : Int32))
  else (
    if p2 < 0 then (
      some (0 : Int32))
    else (
      if (C p0 2) < p1 then (
        some (0 : Int32))
      else (
        if ((C p0 2) - p1) < p2 then (
          some (0 : Int32))
        else (
          some (1 : Int32)))))
set_option maxHeartbeats 4000000 in
set_option maxRecDepth 100000 in
theorem c_X4_hasRun (l : Launch) (E : wg_Ev) (ad : Nat → Nat) (S : wg_Sh) (hS : wg_SC S) (C : wg_C) (M : wg_M) (p0 : Nat) (p1 : Int32) (p2 : Int32) (hp0 : wg_Sht S p0) {r0 : Int32} (h : f_X4_hasRun C p0 p1 p2 = some r0) : wg_Ci l yX4_hasRun cX4_hasRun 3 (some .boolean) 0 0 E ad S C M [.ref (ad p0), .int p1, .int p2] r0 C M := by
  refine wg_start (own := RX4) (by decide +kernel) rfl (Nat.le_of_ble_eq_true rfl) ?_
  intro p e s m below meth c X hr hnm
  refine wg_lv (lv' := [(0, .ref (ad p0)), (1, .int p1), (2, .int p2)]) rfl ?_
  unfold f_X4_hasRun at h
  refine wg_iload_n X 1 dX4_hasRun_0 rfl rfl ?_
  refine wg_if_lt X 30 dX4_hasRun_1 (by decide) (fun c1 => ?_) (fun c1 => ?_)
  · have h := if_t c1 h
    refine wg_iconst (v := 0) X dX4_hasRun_30 (by decide) ?_
    exact wg_zret X ⟨(sm_inj h), rfl, rfl⟩ hr (by decide) dX4_hasRun_31
  · have h := if_f c1 h
    refine wg_iload_n X 2 dX4_hasRun_4 rfl rfl ?_
    refine wg_if_lt X 30 dX4_hasRun_5 (by decide) (fun c2 => ?_) (fun c2 => ?_)
    · have h := if_t c2 h
      refine wg_iconst (v := 0) X dX4_hasRun_30 (by decide) ?_
      exact wg_zret X ⟨(sm_inj h), rfl, rfl⟩ hr (by decide) dX4_hasRun_31
    · have h := if_f c2 h
      refine wg_iload_n X 1 dX4_hasRun_8 rfl rfl ?_
      refine wg_aload_n X 0 dX4_hasRun_9 rfl rfl ?_
      refine wg_getC X cl4 hp0.1 2 (by decide) dX4_hasRun_10 k_273 rfl ?_
      refine wg_icmp_gt X 30 dX4_hasRun_13 (by decide) (fun c3 => ?_) (fun c3 => ?_)
      · have h := if_t c3 h
        refine wg_iconst (v := 0) X dX4_hasRun_30 (by decide) ?_
        exact wg_zret X ⟨(sm_inj h), rfl, rfl⟩ hr (by decide) dX4_hasRun_31
      · have h := if_f c3 h
        refine wg_iload_n X 2 dX4_hasRun_16 rfl rfl ?_
        refine wg_aload_n X 0 dX4_hasRun_17 rfl rfl ?_
        refine wg_getC X cl4 hp0.1 2 (by decide) dX4_hasRun_18 k_273 rfl ?_
        refine wg_iload_n X 1 dX4_hasRun_21 rfl rfl ?_
        refine wg_isub X dX4_hasRun_22 ?_
        refine wg_icmp_gt X 30 dX4_hasRun_23 (by decide) (fun c4 => ?_) (fun c4 => ?_)
        · have h := if_t c4 h
          refine wg_iconst (v := 0) X dX4_hasRun_30 (by decide) ?_
          exact wg_zret X ⟨(sm_inj h), rfl, rfl⟩ hr (by decide) dX4_hasRun_31
        · have h := if_f c4 h
          refine wg_iconst (v := 1) X dX4_hasRun_26 (by decide) ?_
          refine wg_goto X 31 dX4_hasRun_27 (by decide) ?_
          exact wg_zret X ⟨(sm_inj h), rfl, rfl⟩ hr (by decide) dX4_hasRun_31
-- WindowsGive.copy(IIIII)I (('c', 0), 'i', 'i', 'i', 'i', 'i')
def f_X8_copy (C : wg_C) (p1 : Int32) (p2 : Int32) (p3 : Int32) (p4 : Int32) (p5 : Int32) : Option (Int32 × wg_C) :=
  bd (f_X8_isSheet p1) fun r2 =>
  if r2 = 0 then (
    some ((-2 : Int32), C))
  else (
    bd (f_X8_isSheet p3) fun r5 =>
    if r5 = 0 then (
      some ((-2 : Int32), C))
    else (
      ck (inb p1 4) <|
      ck (inb p3 4) <|
      bd (f_X4_isMissing C (44 + 2 * p1.toNatClampNeg)) fun r10 =>
      if r10 = 0 then (
        bd (f_X4_isMissing C (44 + 2 * p3.toNatClampNeg)) fun r13 =>
        if r13 = 0 then (
          if (C (44 + 2 * p1.toNatClampNeg) 1) = (C (44 + 2 * p3.toNatClampNeg) 1) then (
            bd (f_X4_hasRun C (44 + 2 * p1.toNatClampNeg) p2 p5) fun r17 =>
            if r17 = 0 then (
              some ((-12 : Int32), C))
            else (
              bd (f_X4_hasRun C (44 + 2 * p3.toNatClampNeg) p4 p5) fun r20 =>
              if r20 = 0 then (
                some ((-12 : Int32), C))
              else (
                ck (¬ p2 < 0 ∧ ¬ p4 < 0 ∧ ¬ p5 < 0 ∧ p2.toNatClampNeg + p5.toNatClampNeg ≤ 40 ∧ p4.toNatClampNeg + p5.toNatClampNeg ≤ 40) <|
                lt_ (wg_cp C (44 + 2 * p1.toNatClampNeg + 1) (44 + 2 * p3.toNatClampNeg + 1) p2.toNatClampNeg p4.toNatClampNeg p5.toNatClampNeg) fun C23 =>
                some (p5, C23))))
          else (
            some ((-13 : Int32), C)))
        else (
          some ((-11 : Int32), C)))
      else (
        some ((-11 : Int32), C))))
set_option maxHeartbeats 4000000 in
set_option maxRecDepth 100000 in
theorem c_X8_copy (l : Launch) (E : wg_Ev) (ad : Nat → Nat) (S : wg_Sh) (hS : wg_SC S) (C : wg_C) (M : wg_M) (p1 : Int32) (p2 : Int32) (p3 : Int32) (p4 : Int32) (p5 : Int32)  {r0 : Int32} {D0 : wg_C} (h : f_X8_copy C p1 p2 p3 p4 p5 = some (r0, D0)) : wg_Ci l yX8_copy cX8_copy 8 (some .int) 1 22 E ad S C M [.ref (ad 0), .int p1, .int p2, .int p3, .int p4, .int p5] r0 D0 M := by
  refine wg_start (own := RX8) (by decide +kernel) rfl (Nat.le_of_ble_eq_true rfl) ?_
  intro p e s m below meth c X hr hnm
  refine wg_lv (lv' := [(0, .ref (ad 0)), (1, .int p1), (2, .int p2), (3, .int p3), (4, .int p4), (5, .int p5)]) rfl ?_
  unfold f_X8_copy at h
  refine wg_iload_n X 1 dX8_copy_0 rfl rfl ?_
  obtain ⟨r2, h1, h⟩ := bd_some h
  refine wg_callSi (As := [.int p1]) (rest := []) X (c_X8_isSheet l E ad S C M p1  h1) T_yX8_isSheet k_711 dX8_copy_1 rfl rfl (Nat.le_of_ble_eq_true rfl) ⟨Nat.le_of_ble_eq_true rfl, Nat.le_of_ble_eq_true rfl⟩ ⟨Nat.zero_le _, Nat.zero_le _⟩ ?_
  refine wg_if_eq X 14 dX8_copy_4 (by decide) (fun c3 => ?_) (fun c3 => ?_)
  · have h := if_t c3 h
    refine wg_bipush (v := -2) X dX8_copy_14 (by decide) ?_
    exact wg_iret X ⟨(Prod.mk.inj (sm_inj h)).1, (Prod.mk.inj (sm_inj h)).2, rfl⟩ hr dX8_copy_16
  · have h := if_f c3 h
    refine wg_iload_n X 3 dX8_copy_7 rfl rfl ?_
    obtain ⟨r5, h4, h⟩ := bd_some h
    refine wg_callSi (As := [.int p3]) (rest := []) X (c_X8_isSheet l E ad S C M p3  h4) T_yX8_isSheet k_711 dX8_copy_8 rfl rfl (Nat.le_of_ble_eq_true rfl) ⟨Nat.le_of_ble_eq_true rfl, Nat.le_of_ble_eq_true rfl⟩ ⟨Nat.zero_le _, Nat.zero_le _⟩ ?_
    refine wg_if_ne X 17 dX8_copy_11 (by decide) (fun c6 => ?_) (fun c6 => ?_)
    · have h := if_f c6 h
      refine wg_aload_n X 0 dX8_copy_17 rfl rfl ?_
      refine wg_getR (b := 39) X cl8 (SCi hS 0 8 rfl) 7 (by decide) dX8_copy_18 k_479 rfl (SCr hS 0 7 39 rfl) ?_
      refine wg_iload_n X 1 dX8_copy_21 rfl rfl ?_
      obtain ⟨z7, h⟩ := ck_some h
      refine wg_aalS14 (b := 44 + 2 * p1.toNatClampNeg) X (SCi hS 39 14 rfl) (SCl hS 39 4 rfl) z7 (SCs hS (inb_lt z7)).1 dX8_copy_22 ?_
      refine wg_astore (lv' := [(6, .ref (ad (44 + 2 * p1.toNatClampNeg))), (0, .ref (ad 0)), (1, .int p1), (2, .int p2), (3, .int p3), (4, .int p4), (5, .int p5)]) X dX8_copy_23 rfl (by decide) rfl ?_
      refine wg_aload_n X 1 dX8_copy_25 rfl rfl ?_
      refine wg_getR (b := 39) X cl8 (SCi hS 0 8 rfl) 7 (by decide) dX8_copy_26 k_479 rfl (SCr hS 0 7 39 rfl) ?_
      refine wg_iload_n X 4 dX8_copy_29 rfl rfl ?_
      obtain ⟨z8, h⟩ := ck_some h
      refine wg_aalS14 (b := 44 + 2 * p3.toNatClampNeg) X (SCi hS 39 14 rfl) (SCl hS 39 4 rfl) z8 (SCs hS (inb_lt z8)).1 dX8_copy_30 ?_
      refine wg_astore (lv' := [(7, .ref (ad (44 + 2 * p3.toNatClampNeg))), (6, .ref (ad (44 + 2 * p1.toNatClampNeg))), (0, .ref (ad 0)), (1, .int p1), (2, .int p2), (3, .int p3), (4, .int p4), (5, .int p5)]) X dX8_copy_31 rfl (by decide) rfl ?_
      refine wg_aload X 1 dX8_copy_33 rfl ?_
      obtain ⟨r10, h9, h⟩ := bd_some h
      refine wg_callVi (As := []) (rest := []) X (c_X4_isMissing l E ad S hS C M (44 + 2 * p1.toNatClampNeg) ((SCs hS (inb_lt z7)).2) h9) T_yX4_isMissing k_714 cl4 ((SCs hS (inb_lt z7)).2.1) dX8_copy_35 rfl rfl (Nat.le_of_ble_eq_true rfl) ⟨Nat.le_of_ble_eq_true rfl, Nat.le_of_ble_eq_true rfl⟩ ⟨Nat.zero_le _, Nat.zero_le _⟩ ?_
      refine wg_if_ne X 49 dX8_copy_38 (by decide) (fun c11 => ?_) (fun c11 => ?_)
      · have h := if_f c11 h
        refine wg_bipush (v := -11) X dX8_copy_49 (by decide) ?_
        exact wg_iret X ⟨(Prod.mk.inj (sm_inj h)).1, (Prod.mk.inj (sm_inj h)).2, rfl⟩ hr dX8_copy_51
      · have h := if_t c11 h
        refine wg_aload X 0 dX8_copy_41 rfl ?_
        obtain ⟨r13, h12, h⟩ := bd_some h
        refine wg_callVi (As := []) (rest := []) X (c_X4_isMissing l E ad S hS C M (44 + 2 * p3.toNatClampNeg) ((SCs hS (inb_lt z8)).2) h12) T_yX4_isMissing k_714 cl4 ((SCs hS (inb_lt z8)).2.1) dX8_copy_43 rfl rfl (Nat.le_of_ble_eq_true rfl) ⟨Nat.le_of_ble_eq_true rfl, Nat.le_of_ble_eq_true rfl⟩ ⟨Nat.zero_le _, Nat.zero_le _⟩ ?_
        refine wg_if_eq X 52 dX8_copy_46 (by decide) (fun c14 => ?_) (fun c14 => ?_)
        · have h := if_t c14 h
          refine wg_aload X 1 dX8_copy_52 rfl ?_
          refine wg_getC X cl4 (SCs hS (inb_lt z7)).2.1 1 (by decide) dX8_copy_54 k_272 rfl ?_
          refine wg_aload X 0 dX8_copy_57 rfl ?_
          refine wg_getC X cl4 (SCs hS (inb_lt z8)).2.1 1 (by decide) dX8_copy_59 k_272 rfl ?_
          refine wg_icmp_eq X 68 dX8_copy_62 (by decide) (fun c15 => ?_) (fun c15 => ?_)
          · have h := if_t c15 h
            refine wg_aload X 1 dX8_copy_68 rfl ?_
            refine wg_iload_n X 4 dX8_copy_70 rfl rfl ?_
            refine wg_iload X 7 dX8_copy_71 rfl ?_
            obtain ⟨r17, h16, h⟩ := bd_some h
            refine wg_callVi (As := [.int p2, .int p5]) (rest := []) X (c_X4_hasRun l E ad S hS C M (44 + 2 * p1.toNatClampNeg) p2 p5 ((SCs hS (inb_lt z7)).2) h16) T_yX4_hasRun k_854 cl4 ((SCs hS (inb_lt z7)).2.1) dX8_copy_73 rfl rfl (Nat.le_of_ble_eq_true rfl) ⟨Nat.le_of_ble_eq_true rfl, Nat.le_of_ble_eq_true rfl⟩ ⟨Nat.zero_le _, Nat.zero_le _⟩ ?_
            refine wg_if_eq X 91 dX8_copy_76 (by decide) (fun c18 => ?_) (fun c18 => ?_)
            · have h := if_t c18 h
              refine wg_bipush (v := -12) X dX8_copy_91 (by decide) ?_
              exact wg_iret X ⟨(Prod.mk.inj (sm_inj h)).1, (Prod.mk.inj (sm_inj h)).2, rfl⟩ hr dX8_copy_93
            · have h := if_f c18 h
              refine wg_aload X 0 dX8_copy_79 rfl ?_
              refine wg_iload X 6 dX8_copy_81 rfl ?_
              refine wg_iload X 7 dX8_copy_83 rfl ?_
              obtain ⟨r20, h19, h⟩ := bd_some h
              refine wg_callVi (As := [.int p4, .int p5]) (rest := []) X (c_X4_hasRun l E ad S hS C M (44 + 2 * p3.toNatClampNeg) p4 p5 ((SCs hS (inb_lt z8)).2) h19) T_yX4_hasRun k_854 cl4 ((SCs hS (inb_lt z8)).2.1) dX8_copy_85 rfl rfl (Nat.le_of_ble_eq_true rfl) ⟨Nat.le_of_ble_eq_true rfl, Nat.le_of_ble_eq_true rfl⟩ ⟨Nat.zero_le _, Nat.zero_le _⟩ ?_
              refine wg_if_ne X 94 dX8_copy_88 (by decide) (fun c21 => ?_) (fun c21 => ?_)
              · have h := if_f c21 h
                refine wg_aload X 1 dX8_copy_94 rfl ?_
                refine wg_getR (b := (44 + 2 * p1.toNatClampNeg + 1)) X cl4 (SCs hS (inb_lt z7)).2.1 0 (by decide) dX8_copy_96 k_270 rfl (SCs hS (inb_lt z7)).2.2.1 ?_
                refine wg_iload_n X 4 dX8_copy_99 rfl rfl ?_
                refine wg_aload X 0 dX8_copy_100 rfl ?_
                refine wg_getR (b := (44 + 2 * p3.toNatClampNeg + 1)) X cl4 (SCs hS (inb_lt z8)).2.1 0 (by decide) dX8_copy_102 k_270 rfl (SCs hS (inb_lt z8)).2.2.1 ?_
                refine wg_iload X 6 dX8_copy_105 rfl ?_
                refine wg_iload X 7 dX8_copy_107 rfl ?_
                obtain ⟨z22, h⟩ := ck_some h
                obtain ⟨C23, e24, h⟩ := lt_some h
                refine wg_acopy X (SCs hS (inb_lt z7)).2.2.2.1 (SCs hS (inb_lt z7)).2.2.2.2 (SCs hS (inb_lt z8)).2.2.2.1 (SCs hS (inb_lt z8)).2.2.2.2 k_858 z22.1 z22.2.1 z22.2.2.1 z22.2.2.2.1 z22.2.2.2.2 ⟨Nat.le_of_ble_eq_true rfl, Nat.le_of_ble_eq_true rfl⟩ dX8_copy_109 e24 ?_
                refine wg_iload X 7 dX8_copy_112 rfl ?_
                exact wg_iret X ⟨(Prod.mk.inj (sm_inj h)).1, (Prod.mk.inj (sm_inj h)).2, rfl⟩ hr dX8_copy_114
              · have h := if_t c21 h
                refine wg_bipush (v := -12) X dX8_copy_91 (by decide) ?_
                exact wg_iret X ⟨(Prod.mk.inj (sm_inj h)).1, (Prod.mk.inj (sm_inj h)).2, rfl⟩ hr dX8_copy_93
          · have h := if_f c15 h
            refine wg_bipush (v := -13) X dX8_copy_65 (by decide) ?_
            exact wg_iret X ⟨(Prod.mk.inj (sm_inj h)).1, (Prod.mk.inj (sm_inj h)).2, rfl⟩ hr dX8_copy_67
        · have h := if_f c14 h
          refine wg_bipush (v := -11) X dX8_copy_49 (by decide) ?_
          exact wg_iret X ⟨(Prod.mk.inj (sm_inj h)).1, (Prod.mk.inj (sm_inj h)).2, rfl⟩ hr dX8_copy_51
    · have h := if_t c6 h
      refine wg_bipush (v := -2) X dX8_copy_14 (by decide) ?_
      exact wg_iret X ⟨(Prod.mk.inj (sm_inj h)).1, (Prod.mk.inj (sm_inj h)).2, rfl⟩ hr dX8_copy_16
-- WindowsGive.weathers(IIII)I (('c', 0), 'i', 'i', 'i', 'i')
def f_X8_weathers_l74 (N : Nat)  (x3 : Int32) (x4 : Int32) (x5 : Nat) (C : wg_C) (x6 : Int32) (x7 : Int32) : Option ((wg_C × Int32 × Int32) ⊕ ((wg_C × Int32 × Int32) ⊕ (Int32 × wg_C))) :=
  if x4 ≤ x7 then (
    some (.inr (.inl (C, x6, x7))))
  else (
    lt_ (x3 + ((2 : Int32) * x7)) fun v17 =>
    bd (f_X4_has C x5 v17) fun r20 =>
    if r20 = 0 then (
      some (.inr (.inr ((-12 : Int32), C))))
    else (
      bd (f_X4_has C x5 (v17 + (1 : Int32))) fun r23 =>
      if r23 = 0 then (
        some (.inr (.inr ((-12 : Int32), C))))
      else (
        ck (inb v17 40) <|
        ck (inb (v17 + (1 : Int32)) 40) <|
        bd2 (f_X8_set C (0 : Int32) (C (x5 + 1) v17.toNatClampNeg) (C (x5 + 1) (v17 + (1 : Int32)).toNatClampNeg)) fun r28 C29 =>
        if r28 = (-100 : Int32) then (
          lt_ (x7 + (1 : Int32)) fun v31 =>
          some (.inl (C29, x6, v31)))
        else (
          lt_ (x6 + (1 : Int32)) fun v33 =>
          lt_ (x7 + (1 : Int32)) fun v35 =>
          some (.inl (C29, v33, v35))))))
def f_X8_weathers_j57 (N : Nat) (C : wg_C)  (x3 : Int32) (x4 : Int32) (x5 : Nat) : Option (Int32 × wg_C) :=
  bd (f_X4_isMissing C x5) fun r14 =>
  if r14 = 0 then (
    bs3 (lp (fun o => f_X8_weathers_l74 N  x3 x4 x5 o.1 o.2.1 o.2.2) N (C, (0 : Int32), (0 : Int32))) (fun C37 v38 v39 =>
      some (v38, C37))
      (fun q42 => some q42))
  else (
    some ((-11 : Int32), C))
def f_X8_weathers (N : Nat) (C : wg_C) (p1 : Int32) (p2 : Int32) (p3 : Int32) (p4 : Int32) : Option (Int32 × wg_C) :=
  bd (f_X8_isSheet p1) fun r2 =>
  if r2 = 0 then (
    some ((-2 : Int32), C))
  else (
    bd (f_X8_isRowSort p2) fun r5 =>
    if r5 = 0 then (
      some ((-2 : Int32), C))
    else (
      if p4 < 0 then (
        some ((-2 : Int32), C))
      else (
        if p4 ≤ (20 : Int32) then (
          ck (inb p1 4) <|
          bd (f_X4_isMissing C (44 + 2 * p1.toNatClampNeg)) fun r11 =>
          if r11 = 0 then (
            if (C (44 + 2 * p1.toNatClampNeg) 1) = p2 then (
              f_X8_weathers_j57 N C  p3 p4 (44 + 2 * p1.toNatClampNeg))
            else (
              some ((-13 : Int32), C)))
          else (
            f_X8_weathers_j57 N C  p3 p4 (44 + 2 * p1.toNatClampNeg)))
        else (
          some ((-2 : Int32), C)))))
abbrev G_X8_weathers (p : Program) (l : Launch) (e : Env) (s : State) (m : MethodId) (args : Array Value) (below : List Frame) (meth : Method) (c : Code) (E : wg_Ev) (ad : Nat → Nat) (S : wg_Sh) (r0 : Int32) (C0 : wg_C) (M0 : wg_M) (pc : Nat) (C : wg_C) (M : wg_M) (lv : List (Nat × Value)) (st : List Value) : Prop := wg_G p l e (wg_Rm 4 87) s m args below meth c (MQ below (wg_Qi E ad S r0 C0 M0) args s 0 0 (wg_A E)) 9 E ad S 0 0 pc C M lv st
set_option maxHeartbeats 4000000 in
set_option maxRecDepth 100000 in
theorem L_X8_weathers_l74 {p : Program} {l : Launch} {e : Env} {s : State} {m : MethodId} {args : Array Value} {below : List Frame} {meth : Method} {c : Code} {E : wg_Ev} {ad : Nat → Nat} {S : wg_Sh} (X : wg_X p s m args meth c cX8_weathers 9 RX8 E) (hr : meth.sig.returnType = (some .int)) (hS : wg_SC S) (r0 : Int32) (D0 : wg_C) (M : wg_M) (N : Nat)   (x3 : Int32) (x4 : Int32) (x5 : Nat) (hx5 : wg_Sht S x5) : ∀ (n : Nat) (C : wg_C) (x6 : Int32) (x7 : Int32) (o : ((wg_C × Int32 × Int32) ⊕ (Int32 × wg_C))), lp (fun o => f_X8_weathers_l74 N  x3 x4 x5 o.1 o.2.1 o.2.2) n (C, x6, x7) = some o → (∀ (Dy : wg_C) (y6 : Int32) (y7 : Int32), o = Sum.inl (Dy, y6, y7) → G_X8_weathers p l e s m args below meth c E ad S r0 D0 M 151 Dy M [(0, .ref (ad 0)), (3, .int x3), (4, .int x4), (5, .ref (ad x5)), (6, .int y6), (7, .int y7)] []) → (∀ q : (Int32 × wg_C), o = Sum.inr q → q = (r0, D0)) → G_X8_weathers p l e s m args below meth c E ad S r0 D0 M 74 C M [(0, .ref (ad 0)), (3, .int x3), (4, .int x4), (5, .ref (ad x5)), (6, .int x6), (7, .int x7)] [] := by
  intro n
  induction n with
  | zero => exact fun _ _ _ o h => (lp_zero h).elim
  | succ n ih =>
    intro C x6 x7 o h K KR
    obtain ⟨o1, hb, h2⟩ := lp_some h
    replace hb : f_X8_weathers_l74 N  x3 x4 x5 C x6 x7 = some o1 := hb
    clear h
    have Kc : ∀ (Dy : wg_C) (y6 : Int32) (y7 : Int32), o1 = Sum.inl (Dy, y6, y7) → G_X8_weathers p l e s m args below meth c E ad S r0 D0 M 74 Dy M [(0, .ref (ad 0)), (3, .int x3), (4, .int x4), (5, .ref (ad x5)), (6, .int y6), (7, .int y7)] [] := fun Dy y6 y7 e1 => by
      subst e1
      exact ih Dy y6 y7 o h2 K KR
    have Ke : ∀ (Dy : wg_C) (y6 : Int32) (y7 : Int32), o1 = Sum.inr (Sum.inl (Dy, y6, y7)) → G_X8_weathers p l e s m args below meth c E ad S r0 D0 M 151 Dy M [(0, .ref (ad 0)), (3, .int x3), (4, .int x4), (5, .ref (ad x5)), (6, .int y6), (7, .int y7)] [] := fun Dy y6 y7 e1 => by
      subst e1
      exact K Dy y6 y7 (sm_inj (α := ((wg_C × Int32 × Int32) ⊕ (Int32 × wg_C))) h2).symm
    have Kr : ∀ q : (Int32 × wg_C), o1 = Sum.inr (Sum.inr q) → q = (r0, D0) := fun q e1 => by
      subst e1
      exact KR q (sm_inj (α := ((wg_C × Int32 × Int32) ⊕ (Int32 × wg_C))) h2).symm
    clear ih K h2 KR
    unfold f_X8_weathers_l74 at hb
    have h := hb
    clear hb
    refine wg_iload X 5 dX8_weathers_74 rfl ?_
    refine wg_iload X 2 dX8_weathers_76 rfl ?_
    refine wg_icmp_ge X 151 dX8_weathers_78 (by decide) (fun c16 => ?_) (fun c16 => ?_)
    · have h := if_t c16 h
      exact Ke C x6 x7 (sm_inj h).symm
    · have h := if_f c16 h
      refine wg_iload_n X 1 dX8_weathers_81 rfl rfl ?_
      refine wg_iconst (v := 2) X dX8_weathers_82 (by decide) ?_
      refine wg_iload X 5 dX8_weathers_83 rfl ?_
      refine wg_imul X dX8_weathers_85 ?_
      refine wg_iadd X dX8_weathers_86 ?_
      obtain ⟨v17, e18, h⟩ := lt_some h
      refine wg_istore (lv' := [(8, .int v17), (0, .ref (ad 0)), (3, .int x3), (4, .int x4), (5, .ref (ad x5)), (6, .int x6), (7, .int x7)]) X dX8_weathers_87 e18 (by decide) rfl ?_
      refine wg_aload X 4 dX8_weathers_89 rfl ?_
      refine wg_iload X 0 dX8_weathers_91 rfl ?_
      obtain ⟨r20, h19, h⟩ := bd_some h
      refine wg_callVi (As := [.int v17]) (rest := []) X (c_X4_has l E ad S hS C M x5 v17 hx5 h19) T_yX4_has k_846 cl4 hx5.1 dX8_weathers_93 rfl rfl (Nat.le_of_ble_eq_true rfl) ⟨Nat.le_of_ble_eq_true rfl, Nat.le_of_ble_eq_true rfl⟩ ⟨Nat.zero_le _, Nat.zero_le _⟩ ?_
      refine wg_if_eq X 111 dX8_weathers_96 (by decide) (fun c21 => ?_) (fun c21 => ?_)
      · have h := if_t c21 h
        refine wg_bipush (v := -12) X dX8_weathers_111 (by decide) ?_
        have hq := Kr _ (sm_inj h).symm
        exact wg_iret X ⟨(Prod.mk.inj hq).1, (Prod.mk.inj hq).2, rfl⟩ hr dX8_weathers_113
      · have h := if_f c21 h
        refine wg_aload X 4 dX8_weathers_99 rfl ?_
        refine wg_iload X 0 dX8_weathers_101 rfl ?_
        refine wg_iconst (v := 1) X dX8_weathers_103 (by decide) ?_
        refine wg_iadd X dX8_weathers_104 ?_
        obtain ⟨r23, h22, h⟩ := bd_some h
        refine wg_callVi (As := [.int (v17 + (1 : Int32))]) (rest := []) X (c_X4_has l E ad S hS C M x5 (v17 + (1 : Int32)) hx5 h22) T_yX4_has k_846 cl4 hx5.1 dX8_weathers_105 rfl rfl (Nat.le_of_ble_eq_true rfl) ⟨Nat.le_of_ble_eq_true rfl, Nat.le_of_ble_eq_true rfl⟩ ⟨Nat.zero_le _, Nat.zero_le _⟩ ?_
        refine wg_if_ne X 114 dX8_weathers_108 (by decide) (fun c24 => ?_) (fun c24 => ?_)
        · have h := if_f c24 h
          refine wg_aload_n X 1 dX8_weathers_114 rfl rfl ?_
          refine wg_iconst (v := 0) X dX8_weathers_115 (by decide) ?_
          refine wg_aload X 4 dX8_weathers_116 rfl ?_
          refine wg_getR (b := (x5 + 1)) X cl4 hx5.1 0 (by decide) dX8_weathers_118 k_270 rfl hx5.2.1 ?_
          refine wg_iload X 0 dX8_weathers_121 rfl ?_
          obtain ⟨z25, h⟩ := ck_some h
          refine wg_iald X hx5.2.2.1 hx5.2.2.2 z25 dX8_weathers_123 ?_
          refine wg_aload X 4 dX8_weathers_124 rfl ?_
          refine wg_getR (b := (x5 + 1)) X cl4 hx5.1 0 (by decide) dX8_weathers_126 k_270 rfl hx5.2.1 ?_
          refine wg_iload X 0 dX8_weathers_129 rfl ?_
          refine wg_iconst (v := 1) X dX8_weathers_131 (by decide) ?_
          refine wg_iadd X dX8_weathers_132 ?_
          obtain ⟨z26, h⟩ := ck_some h
          refine wg_iald X hx5.2.2.1 hx5.2.2.2 z26 dX8_weathers_133 ?_
          obtain ⟨r28, C29, h27, h⟩ := bd2_some h
          refine wg_callVi (As := [.int (0 : Int32), .int (C (x5 + 1) v17.toNatClampNeg), .int (C (x5 + 1) (v17 + (1 : Int32)).toNatClampNeg)]) (rest := []) X (c_X8_set l E ad S hS C M (0 : Int32) (C (x5 + 1) v17.toNatClampNeg) (C (x5 + 1) (v17 + (1 : Int32)).toNatClampNeg)  h27) T_yX8_set k_863 cl8 (SCi hS 0 8 rfl) dX8_weathers_134 rfl rfl (Nat.le_of_ble_eq_true rfl) ⟨Nat.le_of_ble_eq_true rfl, Nat.le_of_ble_eq_true rfl⟩ ⟨Nat.zero_le _, Nat.zero_le _⟩ ?_
          refine wg_bipush (v := -100) X dX8_weathers_137 (by decide) ?_
          refine wg_icmp_eq X 145 dX8_weathers_139 (by decide) (fun c30 => ?_) (fun c30 => ?_)
          · have h := if_t c30 h
            obtain ⟨v31, e32, h⟩ := lt_some h
            refine wg_iinc (lv' := [(7, .int v31), (8, .int v17), (0, .ref (ad 0)), (3, .int x3), (4, .int x4), (5, .ref (ad x5)), (6, .int x6)]) X 6 dX8_weathers_145 rfl e32 (by decide) rfl ?_
            refine wg_goto X 74 dX8_weathers_148 (by decide) ?_
            refine wg_pick [2, 3, 4, 5, 6, 0] (lv' := [(0, .ref (ad 0)), (3, .int x3), (4, .int x4), (5, .ref (ad x5)), (6, .int x6), (7, .int v31)]) rfl ?_
            exact Kc C29 x6 v31 (sm_inj h).symm
          · have h := if_f c30 h
            obtain ⟨v33, e34, h⟩ := lt_some h
            refine wg_iinc (lv' := [(6, .int v33), (8, .int v17), (0, .ref (ad 0)), (3, .int x3), (4, .int x4), (5, .ref (ad x5)), (7, .int x7)]) X 5 dX8_weathers_142 rfl e34 (by decide) rfl ?_
            obtain ⟨v35, e36, h⟩ := lt_some h
            refine wg_iinc (lv' := [(7, .int v35), (6, .int v33), (8, .int v17), (0, .ref (ad 0)), (3, .int x3), (4, .int x4), (5, .ref (ad x5))]) X 6 dX8_weathers_145 rfl e36 (by decide) rfl ?_
            refine wg_goto X 74 dX8_weathers_148 (by decide) ?_
            refine wg_pick [3, 4, 5, 6, 1, 0] (lv' := [(0, .ref (ad 0)), (3, .int x3), (4, .int x4), (5, .ref (ad x5)), (6, .int v33), (7, .int v35)]) rfl ?_
            exact Kc C29 v33 v35 (sm_inj h).symm
        · have h := if_t c24 h
          refine wg_bipush (v := -12) X dX8_weathers_111 (by decide) ?_
          have hq := Kr _ (sm_inj h).symm
          exact wg_iret X ⟨(Prod.mk.inj hq).1, (Prod.mk.inj hq).2, rfl⟩ hr dX8_weathers_113
set_option maxHeartbeats 4000000 in
set_option maxRecDepth 100000 in
theorem J_X8_weathers_j57 {p : Program} {l : Launch} {e : Env} {s : State} {m : MethodId} {args : Array Value} {below : List Frame} {meth : Method} {c : Code} {E : wg_Ev} {ad : Nat → Nat} {S : wg_Sh} (X : wg_X p s m args meth c cX8_weathers 9 RX8 E) (hr : meth.sig.returnType = (some .int)) (hS : wg_SC S) (r0 : Int32) (D0 : wg_C) (M : wg_M) (N : Nat)  (C : wg_C)  (x3 : Int32) (x4 : Int32) (x5 : Nat) (hx5 : wg_Sht S x5)  (h : f_X8_weathers_j57 N C  x3 x4 x5 = some (r0, D0)) : G_X8_weathers p l e s m args below meth c E ad S r0 D0 M 57 C M [(0, .ref (ad 0)), (3, .int x3), (4, .int x4), (5, .ref (ad x5))] [] := by
  unfold f_X8_weathers_j57 at h
  refine wg_aload X 3 dX8_weathers_57 rfl ?_
  obtain ⟨r14, h13, h⟩ := bd_some h
  refine wg_callVi (As := []) (rest := []) X (c_X4_isMissing l E ad S hS C M x5 hx5 h13) T_yX4_isMissing k_714 cl4 hx5.1 dX8_weathers_59 rfl rfl (Nat.le_of_ble_eq_true rfl) ⟨Nat.le_of_ble_eq_true rfl, Nat.le_of_ble_eq_true rfl⟩ ⟨Nat.zero_le _, Nat.zero_le _⟩ ?_
  refine wg_if_eq X 68 dX8_weathers_62 (by decide) (fun c15 => ?_) (fun c15 => ?_)
  · have h := if_t c15 h
    refine wg_iconst (v := 0) X dX8_weathers_68 (by decide) ?_
    refine wg_istore (lv' := [(6, .int (0 : Int32)), (0, .ref (ad 0)), (3, .int x3), (4, .int x4), (5, .ref (ad x5))]) X dX8_weathers_69 rfl (by decide) rfl ?_
    refine wg_iconst (v := 0) X dX8_weathers_71 (by decide) ?_
    refine wg_istore (lv' := [(7, .int (0 : Int32)), (6, .int (0 : Int32)), (0, .ref (ad 0)), (3, .int x3), (4, .int x4), (5, .ref (ad x5))]) X dX8_weathers_72 rfl (by decide) rfl ?_
    obtain ⟨o40, h41, h⟩ := bs3_o h
    refine wg_pick [2, 3, 4, 5, 1, 0] (lv' := [(0, .ref (ad 0)), (3, .int x3), (4, .int x4), (5, .ref (ad x5)), (6, .int (0 : Int32)), (7, .int (0 : Int32))]) rfl ?_
    refine L_X8_weathers_l74 X hr hS r0 D0 M N   x3 x4 x5 hx5 N C (0 : Int32) (0 : Int32) o40 h41 (fun C37 v38 v39 e43 => ?_) (fun q42 e43 => ?_)
    · subst e43
      replace h := bs3_in h
      refine wg_iload X 4 dX8_weathers_151 rfl ?_
      exact wg_iret X ⟨(Prod.mk.inj (sm_inj h)).1, (Prod.mk.inj (sm_inj h)).2, rfl⟩ hr dX8_weathers_153
    · subst e43
      replace h := bs3_r h
      exact sm_inj h
  · have h := if_f c15 h
    refine wg_bipush (v := -11) X dX8_weathers_65 (by decide) ?_
    exact wg_iret X ⟨(Prod.mk.inj (sm_inj h)).1, (Prod.mk.inj (sm_inj h)).2, rfl⟩ hr dX8_weathers_67
set_option maxHeartbeats 4000000 in
set_option maxRecDepth 100000 in
theorem c_X8_weathers (l : Launch) (E : wg_Ev) (ad : Nat → Nat) (S : wg_Sh) (hS : wg_SC S) (N : Nat) (C : wg_C) (M : wg_M) (p1 : Int32) (p2 : Int32) (p3 : Int32) (p4 : Int32)  {r0 : Int32} {D0 : wg_C} (h : f_X8_weathers N C p1 p2 p3 p4 = some (r0, D0)) : wg_Ci l yX8_weathers cX8_weathers 9 (some .int) 4 87 E ad S C M [.ref (ad 0), .int p1, .int p2, .int p3, .int p4] r0 D0 M := by
  refine wg_start (own := RX8) (by decide +kernel) rfl (Nat.le_of_ble_eq_true rfl) ?_
  intro p e s m below meth c X hr hnm
  refine wg_lv (lv' := [(0, .ref (ad 0)), (1, .int p1), (2, .int p2), (3, .int p3), (4, .int p4)]) rfl ?_
  unfold f_X8_weathers at h
  refine wg_iload_n X 1 dX8_weathers_0 rfl rfl ?_
  obtain ⟨r2, h1, h⟩ := bd_some h
  refine wg_callSi (As := [.int p1]) (rest := []) X (c_X8_isSheet l E ad S C M p1  h1) T_yX8_isSheet k_711 dX8_weathers_1 rfl rfl (Nat.le_of_ble_eq_true rfl) ⟨Nat.le_of_ble_eq_true rfl, Nat.le_of_ble_eq_true rfl⟩ ⟨Nat.zero_le _, Nat.zero_le _⟩ ?_
  refine wg_if_eq X 26 dX8_weathers_4 (by decide) (fun c3 => ?_) (fun c3 => ?_)
  · have h := if_t c3 h
    refine wg_bipush (v := -2) X dX8_weathers_26 (by decide) ?_
    exact wg_iret X ⟨(Prod.mk.inj (sm_inj h)).1, (Prod.mk.inj (sm_inj h)).2, rfl⟩ hr dX8_weathers_28
  · have h := if_f c3 h
    refine wg_iload_n X 2 dX8_weathers_7 rfl rfl ?_
    obtain ⟨r5, h4, h⟩ := bd_some h
    refine wg_callSi (As := [.int p2]) (rest := []) X (c_X8_isRowSort l E ad S C M p2  h4) T_yX8_isRowSort k_839 dX8_weathers_8 rfl rfl (Nat.le_of_ble_eq_true rfl) ⟨Nat.le_of_ble_eq_true rfl, Nat.le_of_ble_eq_true rfl⟩ ⟨Nat.zero_le _, Nat.zero_le _⟩ ?_
    refine wg_if_eq X 26 dX8_weathers_11 (by decide) (fun c6 => ?_) (fun c6 => ?_)
    · have h := if_t c6 h
      refine wg_bipush (v := -2) X dX8_weathers_26 (by decide) ?_
      exact wg_iret X ⟨(Prod.mk.inj (sm_inj h)).1, (Prod.mk.inj (sm_inj h)).2, rfl⟩ hr dX8_weathers_28
    · have h := if_f c6 h
      refine wg_iload X 4 dX8_weathers_14 rfl ?_
      refine wg_if_lt X 26 dX8_weathers_16 (by decide) (fun c7 => ?_) (fun c7 => ?_)
      · have h := if_t c7 h
        refine wg_bipush (v := -2) X dX8_weathers_26 (by decide) ?_
        exact wg_iret X ⟨(Prod.mk.inj (sm_inj h)).1, (Prod.mk.inj (sm_inj h)).2, rfl⟩ hr dX8_weathers_28
      · have h := if_f c7 h
        refine wg_iload X 4 dX8_weathers_19 rfl ?_
        refine wg_bipush (v := 20) X dX8_weathers_21 (by decide) ?_
        refine wg_icmp_le X 29 dX8_weathers_23 (by decide) (fun c8 => ?_) (fun c8 => ?_)
        · have h := if_t c8 h
          refine wg_aload_n X 0 dX8_weathers_29 rfl rfl ?_
          refine wg_getR (b := 39) X cl8 (SCi hS 0 8 rfl) 7 (by decide) dX8_weathers_30 k_479 rfl (SCr hS 0 7 39 rfl) ?_
          refine wg_iload_n X 1 dX8_weathers_33 rfl rfl ?_
          obtain ⟨z9, h⟩ := ck_some h
          refine wg_aalS14 (b := 44 + 2 * p1.toNatClampNeg) X (SCi hS 39 14 rfl) (SCl hS 39 4 rfl) z9 (SCs hS (inb_lt z9)).1 dX8_weathers_34 ?_
          refine wg_astore (lv' := [(5, .ref (ad (44 + 2 * p1.toNatClampNeg))), (0, .ref (ad 0)), (1, .int p1), (2, .int p2), (3, .int p3), (4, .int p4)]) X dX8_weathers_35 rfl (by decide) rfl ?_
          refine wg_aload X 0 dX8_weathers_37 rfl ?_
          obtain ⟨r11, h10, h⟩ := bd_some h
          refine wg_callVi (As := []) (rest := []) X (c_X4_isMissing l E ad S hS C M (44 + 2 * p1.toNatClampNeg) ((SCs hS (inb_lt z9)).2) h10) T_yX4_isMissing k_714 cl4 ((SCs hS (inb_lt z9)).2.1) dX8_weathers_39 rfl rfl (Nat.le_of_ble_eq_true rfl) ⟨Nat.le_of_ble_eq_true rfl, Nat.le_of_ble_eq_true rfl⟩ ⟨Nat.zero_le _, Nat.zero_le _⟩ ?_
          refine wg_if_ne X 57 dX8_weathers_42 (by decide) (fun c12 => ?_) (fun c12 => ?_)
          · have h := if_f c12 h
            refine wg_pick [1, 4, 5, 0] (lv' := [(0, .ref (ad 0)), (3, .int p3), (4, .int p4), (5, .ref (ad (44 + 2 * p1.toNatClampNeg)))]) rfl ?_
            exact J_X8_weathers_j57 X hr hS r0 D0 M N  C  p3 p4 (44 + 2 * p1.toNatClampNeg) ((SCs hS (inb_lt z9)).2)  h
          · have h := if_t c12 h
            refine wg_aload X 0 dX8_weathers_45 rfl ?_
            refine wg_getC X cl4 (SCs hS (inb_lt z9)).2.1 1 (by decide) dX8_weathers_47 k_272 rfl ?_
            refine wg_iload_n X 3 dX8_weathers_50 rfl rfl ?_
            refine wg_icmp_eq X 57 dX8_weathers_51 (by decide) (fun c44 => ?_) (fun c44 => ?_)
            · have h := if_t c44 h
              refine wg_pick [1, 4, 5, 0] (lv' := [(0, .ref (ad 0)), (3, .int p3), (4, .int p4), (5, .ref (ad (44 + 2 * p1.toNatClampNeg)))]) rfl ?_
              exact J_X8_weathers_j57 X hr hS r0 D0 M N  C  p3 p4 (44 + 2 * p1.toNatClampNeg) ((SCs hS (inb_lt z9)).2)  h
            · have h := if_f c44 h
              refine wg_bipush (v := -13) X dX8_weathers_54 (by decide) ?_
              exact wg_iret X ⟨(Prod.mk.inj (sm_inj h)).1, (Prod.mk.inj (sm_inj h)).2, rfl⟩ hr dX8_weathers_56
        · have h := if_f c8 h
          refine wg_bipush (v := -2) X dX8_weathers_26 (by decide) ?_
          exact wg_iret X ⟨(Prod.mk.inj (sm_inj h)).1, (Prod.mk.inj (sm_inj h)).2, rfl⟩ hr dX8_weathers_28
-- WindowsGive.isUnder(II)Z ('i', 'i')
def f_X8_isUnder_l4 (N : Nat) (C : wg_C)  (x1 : Int32) (x2 : Int32) (x3 : Int32) : Option ((Int32 × Int32) ⊕ ((Int32 × Int32) ⊕ Int32)) :=
  if (6 : Int32) ≤ x3 then (
    some (.inr (.inl (x2, x3))))
  else (
    bd (f_X8_isKind x2) fun r3 =>
    if r3 = 0 then (
      some (.inr (.inl (x2, x3))))
    else (
      if x2 = x1 then (
        some (.inr (.inr (1 : Int32))))
      else (
        ck (inb x2 6) <|
        lt_ (wg_above.getD x2.toNatClampNeg 0) fun v7 =>
        lt_ (x3 + (1 : Int32)) fun v9 =>
        some (.inl (v7, v9)))))
def f_X8_isUnder (N : Nat) (C : wg_C) (p0 : Int32) (p1 : Int32) : Option Int32 :=
  bs2 (lp (fun o => f_X8_isUnder_l4 N C  p1 o.1 o.2) N (p0, (0 : Int32))) (fun v11 v12 =>
    some (0 : Int32))
    (fun q15 => some q15)
abbrev G_X8_isUnder (p : Program) (l : Launch) (e : Env) (s : State) (m : MethodId) (args : Array Value) (below : List Frame) (meth : Method) (c : Code) (E : wg_Ev) (ad : Nat → Nat) (S : wg_Sh) (r0 : Int32) (C0 : wg_C) (M0 : wg_M) (pc : Nat) (C : wg_C) (M : wg_M) (lv : List (Nat × Value)) (st : List Value) : Prop := wg_G p l e (wg_Rm 1 20) s m args below meth c (MQ below (wg_Qi E ad S r0 C0 M0) args s 0 0 (wg_A E)) 4 E ad S 0 0 pc C M lv st
set_option maxHeartbeats 4000000 in
set_option maxRecDepth 100000 in
theorem L_X8_isUnder_l4 {p : Program} {l : Launch} {e : Env} {s : State} {m : MethodId} {args : Array Value} {below : List Frame} {meth : Method} {c : Code} {E : wg_Ev} {ad : Nat → Nat} {S : wg_Sh} (X : wg_X p s m args meth c cX8_isUnder 4 RX8 E) (hr : meth.sig.returnType = (some .boolean)) (hS : wg_SC S) (r0 : Int32) (M : wg_M) (N : Nat)  (C : wg_C)  (x1 : Int32)  : ∀ (n : Nat) (x2 : Int32) (x3 : Int32) (o : ((Int32 × Int32) ⊕ Int32)), lp (fun o => f_X8_isUnder_l4 N C  x1 o.1 o.2) n (x2, x3) = some o → (∀ (y2 : Int32) (y3 : Int32), o = Sum.inl (y2, y3) → G_X8_isUnder p l e s m args below meth c E ad S r0 C M 38 C M [(1, .int x1), (2, .int y2), (3, .int y3)] []) → (∀ q : Int32, o = Sum.inr q → q = r0) → G_X8_isUnder p l e s m args below meth c E ad S r0 C M 4 C M [(1, .int x1), (2, .int x2), (3, .int x3)] [] := by
  intro n
  induction n with
  | zero => exact fun _ _ o h => (lp_zero h).elim
  | succ n ih =>
    intro x2 x3 o h K KR
    obtain ⟨o1, hb, h2⟩ := lp_some h
    replace hb : f_X8_isUnder_l4 N C  x1 x2 x3 = some o1 := hb
    clear h
    have Kc : ∀ (y2 : Int32) (y3 : Int32), o1 = Sum.inl (y2, y3) → G_X8_isUnder p l e s m args below meth c E ad S r0 C M 4 C M [(1, .int x1), (2, .int y2), (3, .int y3)] [] := fun y2 y3 e1 => by
      subst e1
      exact ih y2 y3 o h2 K KR
    have Ke : ∀ (y2 : Int32) (y3 : Int32), o1 = Sum.inr (Sum.inl (y2, y3)) → G_X8_isUnder p l e s m args below meth c E ad S r0 C M 38 C M [(1, .int x1), (2, .int y2), (3, .int y3)] [] := fun y2 y3 e1 => by
      subst e1
      exact K y2 y3 (sm_inj (α := ((Int32 × Int32) ⊕ Int32)) h2).symm
    have Kr : ∀ q : Int32, o1 = Sum.inr (Sum.inr q) → q = r0 := fun q e1 => by
      subst e1
      exact KR q (sm_inj (α := ((Int32 × Int32) ⊕ Int32)) h2).symm
    clear ih K h2 KR
    unfold f_X8_isUnder_l4 at hb
    have h := hb
    clear hb
    refine wg_iload_n X 2 dX8_isUnder_4 rfl rfl ?_
    refine wg_kab X dX8_isUnder_5 k_871 ?_
    refine wg_kabLen X dX8_isUnder_8 ?_
    refine wg_icmp_ge X 38 dX8_isUnder_9 (by decide) (fun c1 => ?_) (fun c1 => ?_)
    · have h := if_t c1 h
      exact Ke x2 x3 (sm_inj h).symm
    · have h := if_f c1 h
      refine wg_iload_n X 1 dX8_isUnder_12 rfl rfl ?_
      obtain ⟨r3, h2, h⟩ := bd_some h
      refine wg_callSi (As := [.int x2]) (rest := []) X (c_X8_isKind l E ad S C M x2  h2) T_yX8_isKind k_546 dX8_isUnder_13 rfl rfl (Nat.le_of_ble_eq_true rfl) ⟨Nat.le_of_ble_eq_true rfl, Nat.le_of_ble_eq_true rfl⟩ ⟨Nat.zero_le _, Nat.zero_le _⟩ ?_
      refine wg_if_eq X 38 dX8_isUnder_16 (by decide) (fun c4 => ?_) (fun c4 => ?_)
      · have h := if_t c4 h
        exact Ke x2 x3 (sm_inj h).symm
      · have h := if_f c4 h
        refine wg_iload_n X 1 dX8_isUnder_19 rfl rfl ?_
        refine wg_iload_n X 0 dX8_isUnder_20 rfl rfl ?_
        refine wg_icmp_ne X 26 dX8_isUnder_21 (by decide) (fun c5 => ?_) (fun c5 => ?_)
        · have h := if_f c5 h
          refine wg_kab X dX8_isUnder_26 k_871 ?_
          refine wg_iload_n X 1 dX8_isUnder_29 rfl rfl ?_
          obtain ⟨z6, h⟩ := ck_some h
          refine wg_kabLd X z6 dX8_isUnder_30 ?_
          obtain ⟨v7, e8, h⟩ := lt_some h
          refine wg_istore_n (lv' := [(2, .int v7), (1, .int x1), (3, .int x3)]) X dX8_isUnder_31 rfl e8 (by decide) rfl ?_
          obtain ⟨v9, e10, h⟩ := lt_some h
          refine wg_iinc (lv' := [(3, .int v9), (2, .int v7), (1, .int x1)]) X 2 dX8_isUnder_32 rfl e10 (by decide) rfl ?_
          refine wg_goto X 4 dX8_isUnder_35 (by decide) ?_
          refine wg_pick [2, 1, 0] (lv' := [(1, .int x1), (2, .int v7), (3, .int v9)]) rfl ?_
          exact Kc v7 v9 (sm_inj h).symm
        · have h := if_t c5 h
          refine wg_iconst (v := 1) X dX8_isUnder_24 (by decide) ?_
          have hq := Kr _ (sm_inj h).symm
          exact wg_zret X ⟨hq, rfl, rfl⟩ hr (by decide) dX8_isUnder_25
set_option maxHeartbeats 4000000 in
set_option maxRecDepth 100000 in
theorem c_X8_isUnder (l : Launch) (E : wg_Ev) (ad : Nat → Nat) (S : wg_Sh) (hS : wg_SC S) (N : Nat) (C : wg_C) (M : wg_M) (p0 : Int32) (p1 : Int32)  {r0 : Int32} (h : f_X8_isUnder N C p0 p1 = some r0) : wg_Ci l yX8_isUnder cX8_isUnder 4 (some .boolean) 1 20 E ad S C M [.int p0, .int p1] r0 C M := by
  refine wg_start (own := RX8) (by decide +kernel) rfl (Nat.le_of_ble_eq_true rfl) ?_
  intro p e s m below meth c X hr hnm
  refine wg_lv (lv' := [(0, .int p0), (1, .int p1)]) rfl ?_
  unfold f_X8_isUnder at h
  refine wg_iload_n X 0 dX8_isUnder_0 rfl rfl ?_
  refine wg_istore_n (lv' := [(2, .int p0), (0, .int p0), (1, .int p1)]) X dX8_isUnder_1 rfl rfl (by decide) rfl ?_
  refine wg_iconst (v := 0) X dX8_isUnder_2 (by decide) ?_
  refine wg_istore_n (lv' := [(3, .int (0 : Int32)), (2, .int p0), (0, .int p0), (1, .int p1)]) X dX8_isUnder_3 rfl rfl (by decide) rfl ?_
  obtain ⟨o13, h14, h⟩ := bs2_o h
  refine wg_pick [3, 1, 0] (lv' := [(1, .int p1), (2, .int p0), (3, .int (0 : Int32))]) rfl ?_
  refine L_X8_isUnder_l4 X hr hS r0 M N  C  p1  N p0 (0 : Int32) o13 h14 (fun v11 v12 e16 => ?_) (fun q15 e16 => ?_)
  · subst e16
    replace h := bs2_in h
    refine wg_iconst (v := 0) X dX8_isUnder_38 (by decide) ?_
    exact wg_zret X ⟨(sm_inj h), rfl, rfl⟩ hr (by decide) dX8_isUnder_39
  · subst e16
    replace h := bs2_r h
    exact sm_inj h
-- WindowsGive.taken(II)I (('c', 0), 'i', 'i')
def f_X8_taken (N : Nat) (C : wg_C) (p1 : Int32) (p2 : Int32) : Option Int32 :=
  bd (f_X8_isKind p2) fun r2 =>
  if r2 = 0 then (
    some (-2 : Int32))
  else (
    bd (f_X0_has C p1) fun r5 =>
    if r5 = 0 then (
      some (-11 : Int32))
    else (
      ck (inb p1 8) <|
      bd (f_X8_isUnder N C (C (4 + p1.toNatClampNeg) 1) p2) fun r9 =>
      if r9 = 0 then (
        some (-13 : Int32))
      else (
        some (C (4 + p1.toNatClampNeg) 2))))
set_option maxHeartbeats 4000000 in
set_option maxRecDepth 100000 in
theorem c_X8_taken (l : Launch) (E : wg_Ev) (ad : Nat → Nat) (S : wg_Sh) (hS : wg_SC S) (N : Nat) (C : wg_C) (M : wg_M) (p1 : Int32) (p2 : Int32)  {r0 : Int32} (h : f_X8_taken N C p1 p2 = some r0) : wg_Ci l yX8_taken cX8_taken 4 (some .int) 2 43 E ad S C M [.ref (ad 0), .int p1, .int p2] r0 C M := by
  refine wg_start (own := RX8) (by decide +kernel) rfl (Nat.le_of_ble_eq_true rfl) ?_
  intro p e s m below meth c X hr hnm
  refine wg_lv (lv' := [(0, .ref (ad 0)), (1, .int p1), (2, .int p2)]) rfl ?_
  unfold f_X8_taken at h
  refine wg_iload_n X 2 dX8_taken_0 rfl rfl ?_
  obtain ⟨r2, h1, h⟩ := bd_some h
  refine wg_callSi (As := [.int p2]) (rest := []) X (c_X8_isKind l E ad S C M p2  h1) T_yX8_isKind k_546 dX8_taken_1 rfl rfl (Nat.le_of_ble_eq_true rfl) ⟨Nat.le_of_ble_eq_true rfl, Nat.le_of_ble_eq_true rfl⟩ ⟨Nat.zero_le _, Nat.zero_le _⟩ ?_
  refine wg_if_ne X 10 dX8_taken_4 (by decide) (fun c3 => ?_) (fun c3 => ?_)
  · have h := if_f c3 h
    refine wg_aload_n X 0 dX8_taken_10 rfl rfl ?_
    refine wg_getR (b := 1) X cl8 (SCi hS 0 8 rfl) 0 (by decide) dX8_taken_11 k_472 rfl (SCr hS 0 0 1 rfl) ?_
    refine wg_iload_n X 1 dX8_taken_14 rfl rfl ?_
    obtain ⟨r5, h4, h⟩ := bd_some h
    refine wg_callVi (As := [.int p1]) (rest := []) X (c_X0_has l E ad S hS C M p1  h4) T_yX0_has k_520 cl0 (SCi hS 1 0 rfl) dX8_taken_15 rfl rfl (Nat.le_of_ble_eq_true rfl) ⟨Nat.le_of_ble_eq_true rfl, Nat.le_of_ble_eq_true rfl⟩ ⟨Nat.zero_le _, Nat.zero_le _⟩ ?_
    refine wg_if_ne X 24 dX8_taken_18 (by decide) (fun c6 => ?_) (fun c6 => ?_)
    · have h := if_f c6 h
      refine wg_aload_n X 0 dX8_taken_24 rfl rfl ?_
      refine wg_getR (b := 1) X cl8 (SCi hS 0 8 rfl) 0 (by decide) dX8_taken_25 k_472 rfl (SCr hS 0 0 1 rfl) ?_
      refine wg_getR (b := 3) X cl0 (SCi hS 1 0 rfl) 1 (by decide) dX8_taken_28 k_144 rfl (SCr hS 1 1 3 rfl) ?_
      refine wg_iload_n X 1 dX8_taken_31 rfl rfl ?_
      obtain ⟨z7, h⟩ := ck_some h
      refine wg_aalS13 (b := 4 + p1.toNatClampNeg) X (SCi hS 3 13 rfl) (SCl hS 3 8 rfl) z7 (SCp hS (inb_lt z7)).1 dX8_taken_32 ?_
      refine wg_astore_n (lv' := [(3, .ref (ad (4 + p1.toNatClampNeg))), (0, .ref (ad 0)), (1, .int p1), (2, .int p2)]) X dX8_taken_33 rfl rfl (by decide) rfl ?_
      refine wg_aload_n X 0 dX8_taken_34 rfl rfl ?_
      refine wg_getC X cl1 (SCp hS (inb_lt z7)).2.1 1 (by decide) dX8_taken_35 k_113 rfl ?_
      refine wg_iload_n X 3 dX8_taken_38 rfl rfl ?_
      obtain ⟨r9, h8, h⟩ := bd_some h
      refine wg_callSi (As := [.int (C (4 + p1.toNatClampNeg) 1), .int p2]) (rest := []) X (c_X8_isUnder l E ad S hS N C M (C (4 + p1.toNatClampNeg) 1) p2  h8) T_yX8_isUnder k_868 dX8_taken_39 rfl rfl (Nat.le_of_ble_eq_true rfl) ⟨Nat.le_of_ble_eq_true rfl, Nat.le_of_ble_eq_true rfl⟩ ⟨Nat.zero_le _, Nat.zero_le _⟩ ?_
      refine wg_if_eq X 52 dX8_taken_42 (by decide) (fun c10 => ?_) (fun c10 => ?_)
      · have h := if_t c10 h
        refine wg_bipush (v := -13) X dX8_taken_52 (by decide) ?_
        exact wg_iret X ⟨(sm_inj h), rfl, rfl⟩ hr dX8_taken_54
      · have h := if_f c10 h
        refine wg_aload_n X 0 dX8_taken_45 rfl rfl ?_
        refine wg_getC X cl1 (SCp hS (inb_lt z7)).2.1 2 (by decide) dX8_taken_46 k_116 rfl ?_
        refine wg_goto X 54 dX8_taken_49 (by decide) ?_
        exact wg_iret X ⟨(sm_inj h), rfl, rfl⟩ hr dX8_taken_54
    · have h := if_t c6 h
      refine wg_bipush (v := -11) X dX8_taken_21 (by decide) ?_
      exact wg_iret X ⟨(sm_inj h), rfl, rfl⟩ hr dX8_taken_23
  · have h := if_t c3 h
    refine wg_bipush (v := -2) X dX8_taken_7 (by decide) ?_
    exact wg_iret X ⟨(sm_inj h), rfl, rfl⟩ hr dX8_taken_9
-- WindowsGiveModel.in(JJJ)Z ('l', 'l', 'l')
def f_X9_in (p0 : Int64) (p1 : Int64) (p2 : Int64) : Option Int32 :=
  if (lg_cmp p0 p1) < 0 then (
    some (0 : Int32))
  else (
    if 0 < (lg_cmp p0 p2) then (
      some (0 : Int32))
    else (
      some (1 : Int32)))
set_option maxHeartbeats 4000000 in
set_option maxRecDepth 100000 in
theorem c_X9_in (l : Launch) (E : wg_Ev) (ad : Nat → Nat) (S : wg_Sh) (C : wg_C) (M : wg_M) (p0 : Int64) (p1 : Int64) (p2 : Int64)  {r0 : Int32} (h : f_X9_in p0 p1 p2 = some r0) : wg_Ci l yX9_in cX9_in 6 (some .boolean) 0 0 E ad S C M [.long p0, .long p1, .long p2] r0 C M := by
  refine wg_start (own := RX9) (by decide +kernel) rfl (Nat.le_of_ble_eq_true rfl) ?_
  intro p e s m below meth c X hr hnm
  refine wg_lv (lv' := [(0, .long p0), (2, .long p1), (4, .long p2)]) rfl ?_
  unfold f_X9_in at h
  refine wg_lload_n X 0 dX9_in_0 rfl rfl ?_
  refine wg_lload_n X 1 dX9_in_1 rfl rfl ?_
  refine wg_lcmp X dX9_in_2 ?_
  refine wg_if_lt X 17 dX9_in_3 (by decide) (fun c1 => ?_) (fun c1 => ?_)
  · have h := if_t c1 h
    refine wg_iconst (v := 0) X dX9_in_17 (by decide) ?_
    exact wg_zret X ⟨(sm_inj h), rfl, rfl⟩ hr (by decide) dX9_in_18
  · have h := if_f c1 h
    refine wg_lload_n X 0 dX9_in_6 rfl rfl ?_
    refine wg_lload X 2 dX9_in_7 rfl ?_
    refine wg_lcmp X dX9_in_9 ?_
    refine wg_if_gt X 17 dX9_in_10 (by decide) (fun c2 => ?_) (fun c2 => ?_)
    · have h := if_t c2 h
      refine wg_iconst (v := 0) X dX9_in_17 (by decide) ?_
      exact wg_zret X ⟨(sm_inj h), rfl, rfl⟩ hr (by decide) dX9_in_18
    · have h := if_f c2 h
      refine wg_iconst (v := 1) X dX9_in_13 (by decide) ?_
      refine wg_goto X 18 dX9_in_14 (by decide) ?_
      exact wg_zret X ⟨(sm_inj h), rfl, rfl⟩ hr (by decide) dX9_in_18
-- WindowsGiveModel.within(III)I ('i', 'i', 'i')
def f_X9_within (p0 : Int32) (p1 : Int32) (p2 : Int32) : Option Int32 :=
  if p1 ≤ p0 then (
    if p0 ≤ p2 then (
      some p0)
    else (
      some p2))
  else (
    some p1)
set_option maxHeartbeats 4000000 in
set_option maxRecDepth 100000 in
theorem c_X9_within (l : Launch) (E : wg_Ev) (ad : Nat → Nat) (S : wg_Sh) (C : wg_C) (M : wg_M) (p0 : Int32) (p1 : Int32) (p2 : Int32)  {r0 : Int32} (h : f_X9_within p0 p1 p2 = some r0) : wg_Ci l yX9_within cX9_within 3 (some .int) 0 0 E ad S C M [.int p0, .int p1, .int p2] r0 C M := by
  refine wg_start (own := RX9) (by decide +kernel) rfl (Nat.le_of_ble_eq_true rfl) ?_
  intro p e s m below meth c X hr hnm
  refine wg_lv (lv' := [(0, .int p0), (1, .int p1), (2, .int p2)]) rfl ?_
  unfold f_X9_within at h
  refine wg_iload_n X 0 dX9_within_0 rfl rfl ?_
  refine wg_iload_n X 1 dX9_within_1 rfl rfl ?_
  refine wg_icmp_ge X 9 dX9_within_2 (by decide) (fun c1 => ?_) (fun c1 => ?_)
  · have h := if_t c1 h
    refine wg_iload_n X 0 dX9_within_9 rfl rfl ?_
    refine wg_iload_n X 2 dX9_within_10 rfl rfl ?_
    refine wg_icmp_le X 18 dX9_within_11 (by decide) (fun c2 => ?_) (fun c2 => ?_)
    · have h := if_t c2 h
      refine wg_iload_n X 0 dX9_within_18 rfl rfl ?_
      exact wg_iret X ⟨(sm_inj h), rfl, rfl⟩ hr dX9_within_19
    · have h := if_f c2 h
      refine wg_iload_n X 2 dX9_within_14 rfl rfl ?_
      refine wg_goto X 19 dX9_within_15 (by decide) ?_
      exact wg_iret X ⟨(sm_inj h), rfl, rfl⟩ hr dX9_within_19
  · have h := if_f c1 h
    refine wg_iload_n X 1 dX9_within_5 rfl rfl ?_
    refine wg_goto X 19 dX9_within_6 (by decide) ?_
    exact wg_iret X ⟨(sm_inj h), rfl, rfl⟩ hr dX9_within_19
-- WindowsGiveModel.bitsOf(I)I ('i',)
def f_X9_bitsOf_l4 (N : Nat)   (x1 : Int32) (x2 : Int32) : Option ((Int32 × Int32) ⊕ (Int32 × Int32)) :=
  if x2 = 0 then (
    some (.inr (x1, x2)))
  else (
    lt_ (x1 + (1 : Int32)) fun v2 =>
    lt_ (x2 &&& (x2 - (1 : Int32))) fun v4 =>
    some (.inl (v2, v4)))
def f_X9_bitsOf (N : Nat) (p0 : Int32) : Option Int32 :=
  bd2 (lp (fun o => f_X9_bitsOf_l4 N   o.1 o.2) N ((0 : Int32), p0)) fun v6 v7 =>
  some v6
abbrev G_X9_bitsOf (p : Program) (l : Launch) (e : Env) (s : State) (m : MethodId) (args : Array Value) (below : List Frame) (meth : Method) (c : Code) (E : wg_Ev) (ad : Nat → Nat) (S : wg_Sh) (r0 : Int32) (C0 : wg_C) (M0 : wg_M) (pc : Nat) (C : wg_C) (M : wg_M) (lv : List (Nat × Value)) (st : List Value) : Prop := wg_G p l e (wg_Rm 0 0) s m args below meth c (MQ below (wg_Qi E ad S r0 C0 M0) args s 0 0 (wg_A E)) 3 E ad S 0 0 pc C M lv st
set_option maxHeartbeats 4000000 in
set_option maxRecDepth 100000 in
theorem L_X9_bitsOf_l4 {p : Program} {l : Launch} {e : Env} {s : State} {m : MethodId} {args : Array Value} {below : List Frame} {meth : Method} {c : Code} {E : wg_Ev} {ad : Nat → Nat} {S : wg_Sh} (X : wg_X p s m args meth c cX9_bitsOf 3 RX9 E) (hr : meth.sig.returnType = (some .int)) (r0 : Int32) (C : wg_C) (M : wg_M) (N : Nat)     : ∀ (n : Nat) (x1 : Int32) (x2 : Int32) (o : (Int32 × Int32)), lp (fun o => f_X9_bitsOf_l4 N   o.1 o.2) n (x1, x2) = some o → (∀ (y1 : Int32) (y2 : Int32), o = (y1, y2) → G_X9_bitsOf p l e s m args below meth c E ad S r0 C M 20 C M [(1, .int y1), (2, .int y2)] []) → G_X9_bitsOf p l e s m args below meth c E ad S r0 C M 4 C M [(1, .int x1), (2, .int x2)] [] := by
  intro n
  induction n with
  | zero => exact fun _ _ o h => (lp_zero h).elim
  | succ n ih =>
    intro x1 x2 o h K
    obtain ⟨o1, hb, h2⟩ := lp_some h
    replace hb : f_X9_bitsOf_l4 N   x1 x2 = some o1 := hb
    clear h
    have Kc : ∀ (y1 : Int32) (y2 : Int32), o1 = Sum.inl (y1, y2) → G_X9_bitsOf p l e s m args below meth c E ad S r0 C M 4 C M [(1, .int y1), (2, .int y2)] [] := fun y1 y2 e1 => by
      subst e1
      exact ih y1 y2 o h2 K
    have Ke : ∀ (y1 : Int32) (y2 : Int32), o1 = Sum.inr ((y1, y2)) → G_X9_bitsOf p l e s m args below meth c E ad S r0 C M 20 C M [(1, .int y1), (2, .int y2)] [] := fun y1 y2 e1 => by
      subst e1
      exact K y1 y2 (sm_inj (α := (Int32 × Int32)) h2).symm
    clear ih K h2
    unfold f_X9_bitsOf_l4 at hb
    have h := hb
    clear hb
    refine wg_iload_n X 1 dX9_bitsOf_4 rfl rfl ?_
    refine wg_if_eq X 20 dX9_bitsOf_5 (by decide) (fun c1 => ?_) (fun c1 => ?_)
    · have h := if_t c1 h
      exact Ke x1 x2 (sm_inj h).symm
    · have h := if_f c1 h
      obtain ⟨v2, e3, h⟩ := lt_some h
      refine wg_iinc (lv' := [(1, .int v2), (2, .int x2)]) X 0 dX9_bitsOf_8 rfl e3 (by decide) rfl ?_
      refine wg_iload_n X 1 dX9_bitsOf_11 rfl rfl ?_
      refine wg_iload_n X 1 dX9_bitsOf_12 rfl rfl ?_
      refine wg_iconst (v := 1) X dX9_bitsOf_13 (by decide) ?_
      refine wg_isub X dX9_bitsOf_14 ?_
      refine wg_iand X dX9_bitsOf_15 ?_
      obtain ⟨v4, e5, h⟩ := lt_some h
      refine wg_istore_n (lv' := [(2, .int v4), (1, .int v2)]) X dX9_bitsOf_16 rfl e5 (by decide) rfl ?_
      refine wg_goto X 4 dX9_bitsOf_17 (by decide) ?_
      refine wg_pick [1, 0] (lv' := [(1, .int v2), (2, .int v4)]) rfl ?_
      exact Kc v2 v4 (sm_inj h).symm
set_option maxHeartbeats 4000000 in
set_option maxRecDepth 100000 in
theorem c_X9_bitsOf (l : Launch) (E : wg_Ev) (ad : Nat → Nat) (S : wg_Sh) (N : Nat) (C : wg_C) (M : wg_M) (p0 : Int32)  {r0 : Int32} (h : f_X9_bitsOf N p0 = some r0) : wg_Ci l yX9_bitsOf cX9_bitsOf 3 (some .int) 0 0 E ad S C M [.int p0] r0 C M := by
  refine wg_start (own := RX9) (by decide +kernel) rfl (Nat.le_of_ble_eq_true rfl) ?_
  intro p e s m below meth c X hr hnm
  refine wg_lv (lv' := [(0, .int p0)]) rfl ?_
  unfold f_X9_bitsOf at h
  refine wg_iconst (v := 0) X dX9_bitsOf_0 (by decide) ?_
  refine wg_istore_n (lv' := [(1, .int (0 : Int32)), (0, .int p0)]) X dX9_bitsOf_1 rfl rfl (by decide) rfl ?_
  refine wg_iload_n X 1 dX9_bitsOf_2 rfl rfl ?_
  refine wg_istore_n (lv' := [(2, .int p0), (1, .int (0 : Int32)), (0, .int p0)]) X dX9_bitsOf_3 rfl rfl (by decide) rfl ?_
  obtain ⟨o8, h9, h⟩ := bd2_o h
  refine wg_pick [1, 0] (lv' := [(1, .int (0 : Int32)), (2, .int p0)]) rfl ?_
  refine L_X9_bitsOf_l4 X hr r0 C M N     N (0 : Int32) p0 o8 h9 (fun v6 v7 e11 => ?_)
  · subst e11
    replace h := bd2_in h
    refine wg_iload_n X 0 dX9_bitsOf_20 rfl rfl ?_
    exact wg_iret X ⟨(sm_inj h), rfl, rfl⟩ hr dX9_bitsOf_21
-- WindowsGiveModel.spell(IIIIIIIII)V (('c', 55), 'i', 'i', 'i', 'i', 'i', 'i', 'i', 'i', 'i')
def f_X9_spell (M : wg_M) (p1 : Int32) (p2 : Int32) (p3 : Int32) (p4 : Int32) (p5 : Int32) (p6 : Int32) (p7 : Int32) (p8 : Int32) (p9 : Int32) : Option wg_M :=
  ck (inb p1 960) <|
  lt_ (wg_sM M 56 p1.toNatClampNeg p2) fun M2 =>
  ck (inb (p1 + (1 : Int32)) 960) <|
  lt_ (wg_sM M2 56 (p1 + (1 : Int32)).toNatClampNeg p3) fun M5 =>
  ck (inb (p1 + (2 : Int32)) 960) <|
  lt_ (wg_sM M5 56 (p1 + (2 : Int32)).toNatClampNeg p4) fun M8 =>
  ck (inb (p1 + (3 : Int32)) 960) <|
  lt_ (wg_sM M8 56 (p1 + (3 : Int32)).toNatClampNeg p5) fun M11 =>
  ck (inb (p1 + (4 : Int32)) 960) <|
  lt_ (wg_sM M11 56 (p1 + (4 : Int32)).toNatClampNeg p6) fun M14 =>
  ck (inb (p1 + (5 : Int32)) 960) <|
  lt_ (wg_sM M14 56 (p1 + (5 : Int32)).toNatClampNeg p7) fun M17 =>
  ck (inb (p1 + (6 : Int32)) 960) <|
  lt_ (wg_sM M17 56 (p1 + (6 : Int32)).toNatClampNeg p8) fun M20 =>
  ck (inb (p1 + (7 : Int32)) 960) <|
  lt_ (wg_sM M20 56 (p1 + (7 : Int32)).toNatClampNeg p9) fun M23 =>
  some M23
set_option maxHeartbeats 4000000 in
set_option maxRecDepth 100000 in
theorem c_X9_spell (l : Launch) (E : wg_Ev) (ad : Nat → Nat) (S : wg_Sh) (hS : wg_SM S) (C : wg_C) (M : wg_M) (p1 : Int32) (p2 : Int32) (p3 : Int32) (p4 : Int32) (p5 : Int32) (p6 : Int32) (p7 : Int32) (p8 : Int32) (p9 : Int32)  {D0 : wg_M} (h : f_X9_spell M p1 p2 p3 p4 p5 p6 p7 p8 p9 = some D0) : wg_Cv l yX9_spell cX9_spell 10 none 0 0 E ad S C M [.ref (ad 55), .int p1, .int p2, .int p3, .int p4, .int p5, .int p6, .int p7, .int p8, .int p9] C D0 := by
  refine wg_start (own := RX9) (by decide +kernel) rfl (Nat.le_of_ble_eq_true rfl) ?_
  intro p e s m below meth c X hr hnm
  refine wg_lv (lv' := [(0, .ref (ad 55)), (1, .int p1), (2, .int p2), (3, .int p3), (4, .int p4), (5, .int p5), (6, .int p6), (7, .int p7), (8, .int p8), (9, .int p9)]) rfl ?_
  unfold f_X9_spell at h
  refine wg_aload_n X 0 dX9_spell_0 rfl rfl ?_
  refine wg_getR (b := 56) X cl9 (SMi hS 55 9 rfl) 1 (by decide) dX9_spell_1 k_883 rfl (SMr hS 1 56 rfl) ?_
  refine wg_iload_n X 1 dX9_spell_4 rfl rfl ?_
  refine wg_iload_n X 2 dX9_spell_5 rfl rfl ?_
  obtain ⟨z1, h⟩ := ck_some h
  obtain ⟨M2, e3, h⟩ := lt_some h
  refine wg_maste X (SMi hS 56 11 rfl) (SMl hS 56 960 rfl) z1 dX9_spell_6 e3 ?_
  refine wg_aload_n X 0 dX9_spell_7 rfl rfl ?_
  refine wg_getR (b := 56) X cl9 (SMi hS 55 9 rfl) 1 (by decide) dX9_spell_8 k_883 rfl (SMr hS 1 56 rfl) ?_
  refine wg_iload_n X 1 dX9_spell_11 rfl rfl ?_
  refine wg_iconst (v := 1) X dX9_spell_12 (by decide) ?_
  refine wg_iadd X dX9_spell_13 ?_
  refine wg_iload_n X 3 dX9_spell_14 rfl rfl ?_
  obtain ⟨z4, h⟩ := ck_some h
  obtain ⟨M5, e6, h⟩ := lt_some h
  refine wg_maste X (SMi hS 56 11 rfl) (SMl hS 56 960 rfl) z4 dX9_spell_15 e6 ?_
  refine wg_aload_n X 0 dX9_spell_16 rfl rfl ?_
  refine wg_getR (b := 56) X cl9 (SMi hS 55 9 rfl) 1 (by decide) dX9_spell_17 k_883 rfl (SMr hS 1 56 rfl) ?_
  refine wg_iload_n X 1 dX9_spell_20 rfl rfl ?_
  refine wg_iconst (v := 2) X dX9_spell_21 (by decide) ?_
  refine wg_iadd X dX9_spell_22 ?_
  refine wg_iload X 4 dX9_spell_23 rfl ?_
  obtain ⟨z7, h⟩ := ck_some h
  obtain ⟨M8, e9, h⟩ := lt_some h
  refine wg_maste X (SMi hS 56 11 rfl) (SMl hS 56 960 rfl) z7 dX9_spell_25 e9 ?_
  refine wg_aload_n X 0 dX9_spell_26 rfl rfl ?_
  refine wg_getR (b := 56) X cl9 (SMi hS 55 9 rfl) 1 (by decide) dX9_spell_27 k_883 rfl (SMr hS 1 56 rfl) ?_
  refine wg_iload_n X 1 dX9_spell_30 rfl rfl ?_
  refine wg_iconst (v := 3) X dX9_spell_31 (by decide) ?_
  refine wg_iadd X dX9_spell_32 ?_
  refine wg_iload X 5 dX9_spell_33 rfl ?_
  obtain ⟨z10, h⟩ := ck_some h
  obtain ⟨M11, e12, h⟩ := lt_some h
  refine wg_maste X (SMi hS 56 11 rfl) (SMl hS 56 960 rfl) z10 dX9_spell_35 e12 ?_
  refine wg_aload_n X 0 dX9_spell_36 rfl rfl ?_
  refine wg_getR (b := 56) X cl9 (SMi hS 55 9 rfl) 1 (by decide) dX9_spell_37 k_883 rfl (SMr hS 1 56 rfl) ?_
  refine wg_iload_n X 1 dX9_spell_40 rfl rfl ?_
  refine wg_iconst (v := 4) X dX9_spell_41 (by decide) ?_
  refine wg_iadd X dX9_spell_42 ?_
  refine wg_iload X 6 dX9_spell_43 rfl ?_
  obtain ⟨z13, h⟩ := ck_some h
  obtain ⟨M14, e15, h⟩ := lt_some h
  refine wg_maste X (SMi hS 56 11 rfl) (SMl hS 56 960 rfl) z13 dX9_spell_45 e15 ?_
  refine wg_aload_n X 0 dX9_spell_46 rfl rfl ?_
  refine wg_getR (b := 56) X cl9 (SMi hS 55 9 rfl) 1 (by decide) dX9_spell_47 k_883 rfl (SMr hS 1 56 rfl) ?_
  refine wg_iload_n X 1 dX9_spell_50 rfl rfl ?_
  refine wg_iconst (v := 5) X dX9_spell_51 (by decide) ?_
  refine wg_iadd X dX9_spell_52 ?_
  refine wg_iload X 7 dX9_spell_53 rfl ?_
  obtain ⟨z16, h⟩ := ck_some h
  obtain ⟨M17, e18, h⟩ := lt_some h
  refine wg_maste X (SMi hS 56 11 rfl) (SMl hS 56 960 rfl) z16 dX9_spell_55 e18 ?_
  refine wg_aload_n X 0 dX9_spell_56 rfl rfl ?_
  refine wg_getR (b := 56) X cl9 (SMi hS 55 9 rfl) 1 (by decide) dX9_spell_57 k_883 rfl (SMr hS 1 56 rfl) ?_
  refine wg_iload_n X 1 dX9_spell_60 rfl rfl ?_
  refine wg_bipush (v := 6) X dX9_spell_61 (by decide) ?_
  refine wg_iadd X dX9_spell_63 ?_
  refine wg_iload X 8 dX9_spell_64 rfl ?_
  obtain ⟨z19, h⟩ := ck_some h
  obtain ⟨M20, e21, h⟩ := lt_some h
  refine wg_maste X (SMi hS 56 11 rfl) (SMl hS 56 960 rfl) z19 dX9_spell_66 e21 ?_
  refine wg_aload_n X 0 dX9_spell_67 rfl rfl ?_
  refine wg_getR (b := 56) X cl9 (SMi hS 55 9 rfl) 1 (by decide) dX9_spell_68 k_883 rfl (SMr hS 1 56 rfl) ?_
  refine wg_iload_n X 1 dX9_spell_71 rfl rfl ?_
  refine wg_bipush (v := 7) X dX9_spell_72 (by decide) ?_
  refine wg_iadd X dX9_spell_74 ?_
  refine wg_iload X 9 dX9_spell_75 rfl ?_
  obtain ⟨z22, h⟩ := ck_some h
  obtain ⟨M23, e24, h⟩ := lt_some h
  refine wg_maste X (SMi hS 56 11 rfl) (SMl hS 56 960 rfl) z22 dX9_spell_77 e24 ?_
  exact wg_vret X ⟨rfl, (sm_inj h)⟩ hr dX9_spell_78
-- WindowsGiveModel.isPane(I)Z (('c', 55), 'i')
def f_X9_isPane (M : wg_M) (p1 : Int32) : Option Int32 :=
  bd (f_X9_in p1.toInt64 (0 : Int64) (((M.1 55 13) - (1 : Int32)).toInt64)) fun r2 =>
  ck (r2 = 0 ∨ r2 = 1) <|
  some r2
set_option maxHeartbeats 4000000 in
set_option maxRecDepth 100000 in
theorem c_X9_isPane (l : Launch) (E : wg_Ev) (ad : Nat → Nat) (S : wg_Sh) (hS : wg_SM S) (C : wg_C) (M : wg_M) (p1 : Int32)  {r0 : Int32} (h : f_X9_isPane M p1 = some r0) : wg_Ci l yX9_isPane cX9_isPane 2 (some .boolean) 1 25 E ad S C M [.ref (ad 55), .int p1] r0 C M := by
  refine wg_start (own := RX9) (by decide +kernel) rfl (Nat.le_of_ble_eq_true rfl) ?_
  intro p e s m below meth c X hr hnm
  refine wg_lv (lv' := [(0, .ref (ad 55)), (1, .int p1)]) rfl ?_
  unfold f_X9_isPane at h
  refine wg_iload_n X 1 dX9_isPane_0 rfl rfl ?_
  refine wg_i2l X dX9_isPane_1 ?_
  refine wg_lconst (v := 0) X dX9_isPane_2 (by decide) ?_
  refine wg_aload_n X 0 dX9_isPane_3 rfl rfl ?_
  refine wg_getM X cl9 (SMi hS 55 9 rfl) 13 (by decide) dX9_isPane_4 k_895 rfl ?_
  refine wg_iconst (v := 1) X dX9_isPane_7 (by decide) ?_
  refine wg_isub X dX9_isPane_8 ?_
  refine wg_i2l X dX9_isPane_9 ?_
  obtain ⟨r2, h1, h⟩ := bd_some h
  refine wg_callSi (As := [.long (p1.toInt64), .long (0 : Int64), .long (((M.1 55 13) - (1 : Int32)).toInt64)]) (rest := []) X (c_X9_in l E ad S C M p1.toInt64 (0 : Int64) (((M.1 55 13) - (1 : Int32)).toInt64)  h1) T_yX9_in k_1021 dX9_isPane_10 rfl rfl (Nat.le_of_ble_eq_true rfl) ⟨Nat.le_of_ble_eq_true rfl, Nat.le_of_ble_eq_true rfl⟩ ⟨Nat.zero_le _, Nat.zero_le _⟩ ?_
  obtain ⟨z3, h⟩ := ck_some h
  exact wg_zret X ⟨(sm_inj h), rfl, rfl⟩ hr z3 dX9_isPane_13
-- WindowsGiveModel.isDay(I)Z ('i',)
def f_X9_isDay (p0 : Int32) : Option Int32 :=
  bd (f_X9_in p0.toInt64 (0 : Int64) (31 : Int64)) fun r2 =>
  ck (r2 = 0 ∨ r2 = 1) <|
  some r2
set_option maxHeartbeats 4000000 in
set_option maxRecDepth 100000 in
theorem c_X9_isDay (l : Launch) (E : wg_Ev) (ad : Nat → Nat) (S : wg_Sh) (C : wg_C) (M : wg_M) (p0 : Int32)  {r0 : Int32} (h : f_X9_isDay p0 = some r0) : wg_Ci l yX9_isDay cX9_isDay 1 (some .boolean) 1 25 E ad S C M [.int p0] r0 C M := by
  refine wg_start (own := RX9) (by decide +kernel) rfl (Nat.le_of_ble_eq_true rfl) ?_
  intro p e s m below meth c X hr hnm
  refine wg_lv (lv' := [(0, .int p0)]) rfl ?_
  unfold f_X9_isDay at h
  refine wg_iload_n X 0 dX9_isDay_0 rfl rfl ?_
  refine wg_i2l X dX9_isDay_1 ?_
  refine wg_lconst (v := 0) X dX9_isDay_2 (by decide) ?_
  refine wg_ldc2 (v := 31) X dX9_isDay_3 k_1027 ?_
  obtain ⟨r2, h1, h⟩ := bd_some h
  refine wg_callSi (As := [.long (p0.toInt64), .long (0 : Int64), .long (31 : Int64)]) (rest := []) X (c_X9_in l E ad S C M p0.toInt64 (0 : Int64) (31 : Int64)  h1) T_yX9_in k_1021 dX9_isDay_6 rfl rfl (Nat.le_of_ble_eq_true rfl) ⟨Nat.le_of_ble_eq_true rfl, Nat.le_of_ble_eq_true rfl⟩ ⟨Nat.zero_le _, Nat.zero_le _⟩ ?_
  obtain ⟨z3, h⟩ := ck_some h
  exact wg_zret X ⟨(sm_inj h), rfl, rfl⟩ hr z3 dX9_isDay_9
-- WindowsGiveModel.isRoom(I)Z ('i',)
def f_X9_isRoom (p0 : Int32) : Option Int32 :=
  bd (f_X9_in p0.toInt64 (0 : Int64) (5 : Int64)) fun r2 =>
  ck (r2 = 0 ∨ r2 = 1) <|
  some r2
set_option maxHeartbeats 4000000 in
set_option maxRecDepth 100000 in
theorem c_X9_isRoom (l : Launch) (E : wg_Ev) (ad : Nat → Nat) (S : wg_Sh) (C : wg_C) (M : wg_M) (p0 : Int32)  {r0 : Int32} (h : f_X9_isRoom p0 = some r0) : wg_Ci l yX9_isRoom cX9_isRoom 1 (some .boolean) 1 25 E ad S C M [.int p0] r0 C M := by
  refine wg_start (own := RX9) (by decide +kernel) rfl (Nat.le_of_ble_eq_true rfl) ?_
  intro p e s m below meth c X hr hnm
  refine wg_lv (lv' := [(0, .int p0)]) rfl ?_
  unfold f_X9_isRoom at h
  refine wg_iload_n X 0 dX9_isRoom_0 rfl rfl ?_
  refine wg_i2l X dX9_isRoom_1 ?_
  refine wg_lconst (v := 0) X dX9_isRoom_2 (by decide) ?_
  refine wg_ldc2 (v := 5) X dX9_isRoom_3 k_1033 ?_
  obtain ⟨r2, h1, h⟩ := bd_some h
  refine wg_callSi (As := [.long (p0.toInt64), .long (0 : Int64), .long (5 : Int64)]) (rest := []) X (c_X9_in l E ad S C M p0.toInt64 (0 : Int64) (5 : Int64)  h1) T_yX9_in k_1021 dX9_isRoom_6 rfl rfl (Nat.le_of_ble_eq_true rfl) ⟨Nat.le_of_ble_eq_true rfl, Nat.le_of_ble_eq_true rfl⟩ ⟨Nat.zero_le _, Nat.zero_le _⟩ ?_
  obtain ⟨z3, h⟩ := ck_some h
  exact wg_zret X ⟨(sm_inj h), rfl, rfl⟩ hr z3 dX9_isRoom_9
-- WindowsGiveModel.isSpot(I)Z ('i',)
def f_X9_isSpot (p0 : Int32) : Option Int32 :=
  bd (f_X9_in p0.toInt64 (0 : Int64) (191 : Int64)) fun r2 =>
  ck (r2 = 0 ∨ r2 = 1) <|
  some r2
set_option maxHeartbeats 4000000 in
set_option maxRecDepth 100000 in
theorem c_X9_isSpot (l : Launch) (E : wg_Ev) (ad : Nat → Nat) (S : wg_Sh) (C : wg_C) (M : wg_M) (p0 : Int32)  {r0 : Int32} (h : f_X9_isSpot p0 = some r0) : wg_Ci l yX9_isSpot cX9_isSpot 1 (some .boolean) 1 25 E ad S C M [.int p0] r0 C M := by
  refine wg_start (own := RX9) (by decide +kernel) rfl (Nat.le_of_ble_eq_true rfl) ?_
  intro p e s m below meth c X hr hnm
  refine wg_lv (lv' := [(0, .int p0)]) rfl ?_
  unfold f_X9_isSpot at h
  refine wg_iload_n X 0 dX9_isSpot_0 rfl rfl ?_
  refine wg_i2l X dX9_isSpot_1 ?_
  refine wg_lconst (v := 0) X dX9_isSpot_2 (by decide) ?_
  refine wg_ldc2 (v := 191) X dX9_isSpot_3 k_1161 ?_
  obtain ⟨r2, h1, h⟩ := bd_some h
  refine wg_callSi (As := [.long (p0.toInt64), .long (0 : Int64), .long (191 : Int64)]) (rest := []) X (c_X9_in l E ad S C M p0.toInt64 (0 : Int64) (191 : Int64)  h1) T_yX9_in k_1021 dX9_isSpot_6 rfl rfl (Nat.le_of_ble_eq_true rfl) ⟨Nat.le_of_ble_eq_true rfl, Nat.le_of_ble_eq_true rfl⟩ ⟨Nat.zero_le _, Nat.zero_le _⟩ ?_
  obtain ⟨z3, h⟩ := ck_some h
  exact wg_zret X ⟨(sm_inj h), rfl, rfl⟩ hr z3 dX9_isSpot_9
-- WindowsGiveModel.isSort(I)Z ('i',)
def f_X9_isSort (p0 : Int32) : Option Int32 :=
  bd (f_X9_in p0.toInt64 (0 : Int64) (2 : Int64)) fun r2 =>
  ck (r2 = 0 ∨ r2 = 1) <|
  some r2
set_option maxHeartbeats 4000000 in
set_option maxRecDepth 100000 in
theorem c_X9_isSort (l : Launch) (E : wg_Ev) (ad : Nat → Nat) (S : wg_Sh) (C : wg_C) (M : wg_M) (p0 : Int32)  {r0 : Int32} (h : f_X9_isSort p0 = some r0) : wg_Ci l yX9_isSort cX9_isSort 1 (some .boolean) 1 25 E ad S C M [.int p0] r0 C M := by
  refine wg_start (own := RX9) (by decide +kernel) rfl (Nat.le_of_ble_eq_true rfl) ?_
  intro p e s m below meth c X hr hnm
  refine wg_lv (lv' := [(0, .int p0)]) rfl ?_
  unfold f_X9_isSort at h
  refine wg_iload_n X 0 dX9_isSort_0 rfl rfl ?_
  refine wg_i2l X dX9_isSort_1 ?_
  refine wg_lconst (v := 0) X dX9_isSort_2 (by decide) ?_
  refine wg_ldc2 (v := 2) X dX9_isSort_3 k_1061 ?_
  obtain ⟨r2, h1, h⟩ := bd_some h
  refine wg_callSi (As := [.long (p0.toInt64), .long (0 : Int64), .long (2 : Int64)]) (rest := []) X (c_X9_in l E ad S C M p0.toInt64 (0 : Int64) (2 : Int64)  h1) T_yX9_in k_1021 dX9_isSort_6 rfl rfl (Nat.le_of_ble_eq_true rfl) ⟨Nat.le_of_ble_eq_true rfl, Nat.le_of_ble_eq_true rfl⟩ ⟨Nat.zero_le _, Nat.zero_le _⟩ ?_
  obtain ⟨z3, h⟩ := ck_some h
  exact wg_zret X ⟨(sm_inj h), rfl, rfl⟩ hr z3 dX9_isSort_9
-- WindowsGiveModel.leads(I)I (('c', 55), 'i')
def f_X9_leads (M : wg_M) (p1 : Int32) : Option Int32 :=
  ck (inb p1 8) <|
  if (M.1 60 p1.toNatClampNeg) = (4 : Int32) then (
    ck (inb p1 8) <|
    some (M.1 63 p1.toNatClampNeg))
  else (
    ck (inb p1 8) <|
    some (M.1 64 p1.toNatClampNeg))
set_option maxHeartbeats 4000000 in
set_option maxRecDepth 100000 in
theorem c_X9_leads (l : Launch) (E : wg_Ev) (ad : Nat → Nat) (S : wg_Sh) (hS : wg_SM S) (C : wg_C) (M : wg_M) (p1 : Int32)  {r0 : Int32} (h : f_X9_leads M p1 = some r0) : wg_Ci l yX9_leads cX9_leads 2 (some .int) 0 0 E ad S C M [.ref (ad 55), .int p1] r0 C M := by
  refine wg_start (own := RX9) (by decide +kernel) rfl (Nat.le_of_ble_eq_true rfl) ?_
  intro p e s m below meth c X hr hnm
  refine wg_lv (lv' := [(0, .ref (ad 55)), (1, .int p1)]) rfl ?_
  unfold f_X9_leads at h
  refine wg_aload_n X 0 dX9_leads_0 rfl rfl ?_
  refine wg_getR (b := 60) X cl9 (SMi hS 55 9 rfl) 8 (by decide) dX9_leads_1 k_890 rfl (SMr hS 8 60 rfl) ?_
  refine wg_iload_n X 1 dX9_leads_4 rfl rfl ?_
  obtain ⟨z1, h⟩ := ck_some h
  refine wg_mald X (SMi hS 60 11 rfl) (SMl hS 60 8 rfl) z1 dX9_leads_5 ?_
  refine wg_iconst (v := 4) X dX9_leads_6 (by decide) ?_
  refine wg_icmp_ne X 19 dX9_leads_7 (by decide) (fun c2 => ?_) (fun c2 => ?_)
  · have h := if_f c2 h
    refine wg_aload_n X 0 dX9_leads_19 rfl rfl ?_
    refine wg_getR (b := 64) X cl9 (SMi hS 55 9 rfl) 12 (by decide) dX9_leads_20 k_894 rfl (SMr hS 12 64 rfl) ?_
    refine wg_iload_n X 1 dX9_leads_23 rfl rfl ?_
    obtain ⟨z3, h⟩ := ck_some h
    refine wg_mald X (SMi hS 64 11 rfl) (SMl hS 64 8 rfl) z3 dX9_leads_24 ?_
    exact wg_iret X ⟨(sm_inj h), rfl, rfl⟩ hr dX9_leads_25
  · have h := if_t c2 h
    refine wg_aload_n X 0 dX9_leads_10 rfl rfl ?_
    refine wg_getR (b := 63) X cl9 (SMi hS 55 9 rfl) 11 (by decide) dX9_leads_11 k_893 rfl (SMr hS 11 63 rfl) ?_
    refine wg_iload_n X 1 dX9_leads_14 rfl rfl ?_
    obtain ⟨z4, h⟩ := ck_some h
    refine wg_mald X (SMi hS 63 11 rfl) (SMl hS 63 8 rfl) z4 dX9_leads_15 ?_
    refine wg_goto X 25 dX9_leads_16 (by decide) ?_
    exact wg_iret X ⟨(sm_inj h), rfl, rfl⟩ hr dX9_leads_25
-- WindowsGiveModel.told(II)I (('c', 55), 'i', 'i')
def f_X9_told_j37 (M : wg_M)  (x1 : Int32) (x2 : Int32) : Option Int32 :=
  if (3 : Int32) ≤ x2 then (
    if x2 = (3 : Int32) then (
      ck (inb x1 8) <|
      some (M.1 63 x1.toNatClampNeg))
    else (
      if x2 = (4 : Int32) then (
        ck (inb x1 8) <|
        some (M.1 64 x1.toNatClampNeg))
      else (
        if x2 = (5 : Int32) then (
          ck (inb x1 8) <|
          some (M.1 60 x1.toNatClampNeg))
        else (
          bd (f_X9_leads M x1) fun r13 =>
          some r13))))
  else (
    if x2 = 0 then (
      ck (inb x1 32) <|
      some (M.1 59 x1.toNatClampNeg))
    else (
      if x2 = (1 : Int32) then (
        ck (inb x1 8) <|
        some (M.1 61 x1.toNatClampNeg))
      else (
        ck (inb x1 8) <|
        some (M.1 62 x1.toNatClampNeg))))
def f_X9_told (M : wg_M) (p1 : Int32) (p2 : Int32) : Option Int32 :=
  bd (f_X9_in p2.toInt64 (0 : Int64) (6 : Int64)) fun r2 =>
  if r2 = 0 then (
    some (-100 : Int32))
  else (
    if p2 = 0 then (
      bd (f_X9_isDay p1) fun r23 =>
      if r23 = 0 then (
        some (-100 : Int32))
      else (
        f_X9_told_j37 M  p1 p2))
    else (
      bd (f_X9_isPane M p1) fun r6 =>
      if r6 = 0 then (
        some (-100 : Int32))
      else (
        f_X9_told_j37 M  p1 p2)))
abbrev G_X9_told (p : Program) (l : Launch) (e : Env) (s : State) (m : MethodId) (args : Array Value) (below : List Frame) (meth : Method) (c : Code) (E : wg_Ev) (ad : Nat → Nat) (S : wg_Sh) (r0 : Int32) (C0 : wg_C) (M0 : wg_M) (pc : Nat) (C : wg_C) (M : wg_M) (lv : List (Nat × Value)) (st : List Value) : Prop := wg_G p l e (wg_Rm 2 46) s m args below meth c (MQ below (wg_Qi E ad S r0 C0 M0) args s 0 0 (wg_A E)) 3 E ad S 0 0 pc C M lv st
set_option maxHeartbeats 4000000 in
set_option maxRecDepth 100000 in
theorem J_X9_told_j37 {p : Program} {l : Launch} {e : Env} {s : State} {m : MethodId} {args : Array Value} {below : List Frame} {meth : Method} {c : Code} {E : wg_Ev} {ad : Nat → Nat} {S : wg_Sh} (X : wg_X p s m args meth c cX9_told 3 RX9 E) (hr : meth.sig.returnType = (some .int)) (hS : wg_SM S) (r0 : Int32) (C : wg_C)  (M : wg_M)  (x1 : Int32) (x2 : Int32)   (h : f_X9_told_j37 M  x1 x2 = some r0) : G_X9_told p l e s m args below meth c E ad S r0 C M 37 C M [(0, .ref (ad 55)), (1, .int x1), (2, .int x2)] [] := by
  unfold f_X9_told_j37 at h
  refine wg_iload_n X 2 dX9_told_37 rfl rfl ?_
  refine wg_iconst (v := 3) X dX9_told_38 (by decide) ?_
  refine wg_icmp_ge X 76 dX9_told_39 (by decide) (fun c8 => ?_) (fun c8 => ?_)
  · have h := if_t c8 h
    refine wg_iload_n X 2 dX9_told_76 rfl rfl ?_
    refine wg_iconst (v := 3) X dX9_told_77 (by decide) ?_
    refine wg_icmp_ne X 90 dX9_told_78 (by decide) (fun c9 => ?_) (fun c9 => ?_)
    · have h := if_f c9 h
      refine wg_iload_n X 2 dX9_told_90 rfl rfl ?_
      refine wg_iconst (v := 4) X dX9_told_91 (by decide) ?_
      refine wg_icmp_ne X 104 dX9_told_92 (by decide) (fun c10 => ?_) (fun c10 => ?_)
      · have h := if_f c10 h
        refine wg_iload_n X 2 dX9_told_104 rfl rfl ?_
        refine wg_iconst (v := 5) X dX9_told_105 (by decide) ?_
        refine wg_icmp_ne X 118 dX9_told_106 (by decide) (fun c11 => ?_) (fun c11 => ?_)
        · have h := if_f c11 h
          refine wg_aload_n X 0 dX9_told_118 rfl rfl ?_
          refine wg_iload_n X 1 dX9_told_119 rfl rfl ?_
          obtain ⟨r13, h12, h⟩ := bd_some h
          refine wg_callVi (As := [.int x1]) (rest := []) X (c_X9_leads l E ad S hS C M x1  h12) T_yX9_leads k_1040 cl9 (SMi hS 55 9 rfl) dX9_told_120 rfl rfl (Nat.le_of_ble_eq_true rfl) ⟨Nat.le_of_ble_eq_true rfl, Nat.le_of_ble_eq_true rfl⟩ ⟨Nat.zero_le _, Nat.zero_le _⟩ ?_
          exact wg_iret X ⟨(sm_inj h), rfl, rfl⟩ hr dX9_told_123
        · have h := if_t c11 h
          refine wg_aload_n X 0 dX9_told_109 rfl rfl ?_
          refine wg_getR (b := 60) X cl9 (SMi hS 55 9 rfl) 8 (by decide) dX9_told_110 k_890 rfl (SMr hS 8 60 rfl) ?_
          refine wg_iload_n X 1 dX9_told_113 rfl rfl ?_
          obtain ⟨z14, h⟩ := ck_some h
          refine wg_mald X (SMi hS 60 11 rfl) (SMl hS 60 8 rfl) z14 dX9_told_114 ?_
          refine wg_goto X 123 dX9_told_115 (by decide) ?_
          exact wg_iret X ⟨(sm_inj h), rfl, rfl⟩ hr dX9_told_123
      · have h := if_t c10 h
        refine wg_aload_n X 0 dX9_told_95 rfl rfl ?_
        refine wg_getR (b := 64) X cl9 (SMi hS 55 9 rfl) 12 (by decide) dX9_told_96 k_894 rfl (SMr hS 12 64 rfl) ?_
        refine wg_iload_n X 1 dX9_told_99 rfl rfl ?_
        obtain ⟨z15, h⟩ := ck_some h
        refine wg_mald X (SMi hS 64 11 rfl) (SMl hS 64 8 rfl) z15 dX9_told_100 ?_
        refine wg_goto X 123 dX9_told_101 (by decide) ?_
        exact wg_iret X ⟨(sm_inj h), rfl, rfl⟩ hr dX9_told_123
    · have h := if_t c9 h
      refine wg_aload_n X 0 dX9_told_81 rfl rfl ?_
      refine wg_getR (b := 63) X cl9 (SMi hS 55 9 rfl) 11 (by decide) dX9_told_82 k_893 rfl (SMr hS 11 63 rfl) ?_
      refine wg_iload_n X 1 dX9_told_85 rfl rfl ?_
      obtain ⟨z16, h⟩ := ck_some h
      refine wg_mald X (SMi hS 63 11 rfl) (SMl hS 63 8 rfl) z16 dX9_told_86 ?_
      refine wg_goto X 123 dX9_told_87 (by decide) ?_
      exact wg_iret X ⟨(sm_inj h), rfl, rfl⟩ hr dX9_told_123
  · have h := if_f c8 h
    refine wg_iload_n X 2 dX9_told_42 rfl rfl ?_
    refine wg_if_ne X 55 dX9_told_43 (by decide) (fun c17 => ?_) (fun c17 => ?_)
    · have h := if_f c17 h
      refine wg_iload_n X 2 dX9_told_55 rfl rfl ?_
      refine wg_iconst (v := 1) X dX9_told_56 (by decide) ?_
      refine wg_icmp_ne X 69 dX9_told_57 (by decide) (fun c18 => ?_) (fun c18 => ?_)
      · have h := if_f c18 h
        refine wg_aload_n X 0 dX9_told_69 rfl rfl ?_
        refine wg_getR (b := 62) X cl9 (SMi hS 55 9 rfl) 10 (by decide) dX9_told_70 k_892 rfl (SMr hS 10 62 rfl) ?_
        refine wg_iload_n X 1 dX9_told_73 rfl rfl ?_
        obtain ⟨z19, h⟩ := ck_some h
        refine wg_mald X (SMi hS 62 11 rfl) (SMl hS 62 8 rfl) z19 dX9_told_74 ?_
        exact wg_iret X ⟨(sm_inj h), rfl, rfl⟩ hr dX9_told_75
      · have h := if_t c18 h
        refine wg_aload_n X 0 dX9_told_60 rfl rfl ?_
        refine wg_getR (b := 61) X cl9 (SMi hS 55 9 rfl) 9 (by decide) dX9_told_61 k_891 rfl (SMr hS 9 61 rfl) ?_
        refine wg_iload_n X 1 dX9_told_64 rfl rfl ?_
        obtain ⟨z20, h⟩ := ck_some h
        refine wg_mald X (SMi hS 61 11 rfl) (SMl hS 61 8 rfl) z20 dX9_told_65 ?_
        refine wg_goto X 75 dX9_told_66 (by decide) ?_
        exact wg_iret X ⟨(sm_inj h), rfl, rfl⟩ hr dX9_told_75
    · have h := if_t c17 h
      refine wg_aload_n X 0 dX9_told_46 rfl rfl ?_
      refine wg_getR (b := 59) X cl9 (SMi hS 55 9 rfl) 7 (by decide) dX9_told_47 k_889 rfl (SMr hS 7 59 rfl) ?_
      refine wg_iload_n X 1 dX9_told_50 rfl rfl ?_
      obtain ⟨z21, h⟩ := ck_some h
      refine wg_mald X (SMi hS 59 11 rfl) (SMl hS 59 32 rfl) z21 dX9_told_51 ?_
      refine wg_goto X 75 dX9_told_52 (by decide) ?_
      exact wg_iret X ⟨(sm_inj h), rfl, rfl⟩ hr dX9_told_75
set_option maxHeartbeats 4000000 in
set_option maxRecDepth 100000 in
theorem c_X9_told (l : Launch) (E : wg_Ev) (ad : Nat → Nat) (S : wg_Sh) (hS : wg_SM S) (C : wg_C) (M : wg_M) (p1 : Int32) (p2 : Int32)  {r0 : Int32} (h : f_X9_told M p1 p2 = some r0) : wg_Ci l yX9_told cX9_told 3 (some .int) 2 46 E ad S C M [.ref (ad 55), .int p1, .int p2] r0 C M := by
  refine wg_start (own := RX9) (by decide +kernel) rfl (Nat.le_of_ble_eq_true rfl) ?_
  intro p e s m below meth c X hr hnm
  refine wg_lv (lv' := [(0, .ref (ad 55)), (1, .int p1), (2, .int p2)]) rfl ?_
  unfold f_X9_told at h
  refine wg_iload_n X 2 dX9_told_0 rfl rfl ?_
  refine wg_i2l X dX9_told_1 ?_
  refine wg_lconst (v := 0) X dX9_told_2 (by decide) ?_
  refine wg_ldc2 (v := 6) X dX9_told_3 k_1039 ?_
  obtain ⟨r2, h1, h⟩ := bd_some h
  refine wg_callSi (As := [.long (p2.toInt64), .long (0 : Int64), .long (6 : Int64)]) (rest := []) X (c_X9_in l E ad S C M p2.toInt64 (0 : Int64) (6 : Int64)  h1) T_yX9_in k_1021 dX9_told_6 rfl rfl (Nat.le_of_ble_eq_true rfl) ⟨Nat.le_of_ble_eq_true rfl, Nat.le_of_ble_eq_true rfl⟩ ⟨Nat.zero_le _, Nat.zero_le _⟩ ?_
  refine wg_if_eq X 34 dX9_told_9 (by decide) (fun c3 => ?_) (fun c3 => ?_)
  · have h := if_t c3 h
    refine wg_bipush (v := -100) X dX9_told_34 (by decide) ?_
    exact wg_iret X ⟨(sm_inj h), rfl, rfl⟩ hr dX9_told_36
  · have h := if_f c3 h
    refine wg_iload_n X 2 dX9_told_12 rfl rfl ?_
    refine wg_if_ne X 26 dX9_told_13 (by decide) (fun c4 => ?_) (fun c4 => ?_)
    · have h := if_f c4 h
      refine wg_aload_n X 0 dX9_told_26 rfl rfl ?_
      refine wg_iload_n X 1 dX9_told_27 rfl rfl ?_
      obtain ⟨r6, h5, h⟩ := bd_some h
      refine wg_callVi (As := [.int p1]) (rest := []) X (c_X9_isPane l E ad S hS C M p1  h5) T_yX9_isPane k_1028 cl9 (SMi hS 55 9 rfl) dX9_told_28 rfl rfl (Nat.le_of_ble_eq_true rfl) ⟨Nat.le_of_ble_eq_true rfl, Nat.le_of_ble_eq_true rfl⟩ ⟨Nat.zero_le _, Nat.zero_le _⟩ ?_
      refine wg_if_ne X 37 dX9_told_31 (by decide) (fun c7 => ?_) (fun c7 => ?_)
      · have h := if_f c7 h
        exact J_X9_told_j37 X hr hS r0 C  M  p1 p2   h
      · have h := if_t c7 h
        refine wg_bipush (v := -100) X dX9_told_34 (by decide) ?_
        exact wg_iret X ⟨(sm_inj h), rfl, rfl⟩ hr dX9_told_36
    · have h := if_t c4 h
      refine wg_iload_n X 1 dX9_told_16 rfl rfl ?_
      obtain ⟨r23, h22, h⟩ := bd_some h
      refine wg_callSi (As := [.int p1]) (rest := []) X (c_X9_isDay l E ad S C M p1  h22) T_yX9_isDay k_1024 dX9_told_17 rfl rfl (Nat.le_of_ble_eq_true rfl) ⟨Nat.le_of_ble_eq_true rfl, Nat.le_of_ble_eq_true rfl⟩ ⟨Nat.zero_le _, Nat.zero_le _⟩ ?_
      refine wg_if_eq X 34 dX9_told_20 (by decide) (fun c24 => ?_) (fun c24 => ?_)
      · have h := if_t c24 h
        refine wg_bipush (v := -100) X dX9_told_34 (by decide) ?_
        exact wg_iret X ⟨(sm_inj h), rfl, rfl⟩ hr dX9_told_36
      · have h := if_f c24 h
        refine wg_goto X 37 dX9_told_23 (by decide) ?_
        exact J_X9_told_j37 X hr hS r0 C  M  p1 p2   h
