def f_X9v (N : Nat) : Nat → Nat → wg_M → Int32 → Int32 → Int32 → Int32 → Int32 → Option wg_M
  | 0 => fun k D i0 i1 i2 i3 i4 => none
  | d + 1 => fun k D i0 i1 i2 i3 i4 => if k = 0 then f_X9_viewsFrom N (f_X9v N d) D i0 i1 i2 i3 i4 else none
set_option maxHeartbeats 4000000 in
set_option maxRecDepth 100000 in
theorem c_X9v (l : Launch) (E : wg_Ev) (ad : Nat → Nat) (S : wg_Sh) (hS : wg_SM S) (N : Nat) (C : wg_C) : ∀ (d k : Nat) (D : wg_M) (i0 i1 i2 i3 i4 : Int32) (D0 : wg_M), f_X9v N d k D i0 i1 i2 i3 i4 = some D0 → R_X9v l E ad S C d k D i0 i1 i2 i3 i4 D0 := by
  intro d
  induction d with
  | zero => intro k D i0 i1 i2 i3 i4 D0 h; cases h
  | succ d ih =>
    intro k D i0 i1 i2 i3 i4 D0 h
    replace h : (if k = 0 then f_X9_viewsFrom N (f_X9v N d) D i0 i1 i2 i3 i4 else none) = some D0 := h
    by_cases k0 : k = 0
    · subst k0
      have h := if_t rfl h
      exact c_X9_viewsFrom l E ad S hS N d (f_X9v N d) C (fun k D i0 i1 i2 i3 i4 D0 h => ih k D i0 i1 i2 i3 i4 D0 h) D i0 i1 i2 i3 i4 h
    have h := if_f k0 h
    cases h
def f_X9_viewsFrom_e (N : Nat) (D : wg_M) (i0 i1 i2 i3 i4 : Int32) : Option wg_M := f_X9v N 8 0 D i0 i1 i2 i3 i4
theorem c_X9_viewsFrom_e (l : Launch) (E : wg_Ev) (ad : Nat → Nat) (S : wg_Sh) (hS : wg_SM S) (N : Nat) (C : wg_C) (M : wg_M) (i0 i1 i2 i3 i4 : Int32) {D0 : wg_M} (h : f_X9_viewsFrom_e N M i0 i1 i2 i3 i4 = some D0) : wg_Cv l yX9_viewsFrom cX9_viewsFrom 7 none 108 6320 E ad S C M [.ref (ad 55), .int i0, .int i1, .int i2, .int i3, .int i4] C D0 := c_X9v l E ad S hS N C 8 0 M i0 i1 i2 i3 i4 D0 h
-- WindowsGiveModel.views(III)I (('c', 55), 'i', 'i', 'i')
def f_X9_views (N : Nat) (M : wg_M) (p1 : Int32) (p2 : Int32) (p3 : Int32) : Option (Int32 × wg_M) :=
  bd (f_X9_isDay p1) fun r2 =>
  if r2 = 0 then (
    some ((-2 : Int32), M))
  else (
    bd (f_X9_in p2.toInt64 (0 : Int64) (4 : Int64)) fun r5 =>
    if r5 = 0 then (
      some ((-2 : Int32), M))
    else (
      bd (f_X9_in p3.toInt64 (0 : Int64) (1 : Int64)) fun r8 =>
      if r8 = 0 then (
        some ((-2 : Int32), M))
      else (
        lt_ (wg_sM M 55 33 (-1 : Int32)) fun M10 =>
        lt_ (wg_sM M10 55 34 (-1 : Int32)) fun M12 =>
        bd (f_X9_viewsFrom_e N M12 p2 (0 : Int32) (0 : Int32) (0 : Int32) p1) fun M15 =>
        if p3 = 0 then (
          some ((M15.1 55 33), M15))
        else (
          some ((M15.1 55 34), M15)))))
set_option maxHeartbeats 4000000 in
set_option maxRecDepth 100000 in
theorem c_X9_views (l : Launch) (E : wg_Ev) (ad : Nat → Nat) (S : wg_Sh) (hS : wg_SM S) (N : Nat) (C : wg_C) (M : wg_M) (p1 : Int32) (p2 : Int32) (p3 : Int32)  {r0 : Int32} {D0 : wg_M} (h : f_X9_views N M p1 p2 p3 = some (r0, D0)) : wg_Ci l yX9_views cX9_views 4 (some .int) 109 6346 E ad S C M [.ref (ad 55), .int p1, .int p2, .int p3] r0 C D0 := by
  refine wg_start (own := RX9) (by decide +kernel) rfl (Nat.le_of_ble_eq_true rfl) ?_
  intro p e s m below meth c X hr hnm
  refine wg_lv (lv' := [(0, .ref (ad 55)), (1, .int p1), (2, .int p2), (3, .int p3)]) rfl ?_
  unfold f_X9_views at h
  refine wg_iload_n X 1 dX9_views_0 rfl rfl ?_
  obtain ⟨r2, h1, h⟩ := bd_some h
  refine wg_callSi (As := [.int p1]) (rest := []) X (c_X9_isDay l E ad S C M p1  h1) T_yX9_isDay k_1024 dX9_views_1 rfl rfl (Nat.le_of_ble_eq_true rfl) ⟨Nat.le_of_ble_eq_true rfl, Nat.le_of_ble_eq_true rfl⟩ ⟨Nat.zero_le _, Nat.zero_le _⟩ ?_
  refine wg_if_eq X 29 dX9_views_4 (by decide) (fun c3 => ?_) (fun c3 => ?_)
  · have h := if_t c3 h
    refine wg_bipush (v := -2) X dX9_views_29 (by decide) ?_
    exact wg_iret X ⟨(Prod.mk.inj (sm_inj h)).1, rfl, (Prod.mk.inj (sm_inj h)).2⟩ hr dX9_views_31
  · have h := if_f c3 h
    refine wg_iload_n X 2 dX9_views_7 rfl rfl ?_
    refine wg_i2l X dX9_views_8 ?_
    refine wg_lconst (v := 0) X dX9_views_9 (by decide) ?_
    refine wg_ldc2 (v := 4) X dX9_views_10 k_1020 ?_
    obtain ⟨r5, h4, h⟩ := bd_some h
    refine wg_callSi (As := [.long (p2.toInt64), .long (0 : Int64), .long (4 : Int64)]) (rest := []) X (c_X9_in l E ad S C M p2.toInt64 (0 : Int64) (4 : Int64)  h4) T_yX9_in k_1021 dX9_views_13 rfl rfl (Nat.le_of_ble_eq_true rfl) ⟨Nat.le_of_ble_eq_true rfl, Nat.le_of_ble_eq_true rfl⟩ ⟨Nat.zero_le _, Nat.zero_le _⟩ ?_
    refine wg_if_eq X 29 dX9_views_16 (by decide) (fun c6 => ?_) (fun c6 => ?_)
    · have h := if_t c6 h
      refine wg_bipush (v := -2) X dX9_views_29 (by decide) ?_
      exact wg_iret X ⟨(Prod.mk.inj (sm_inj h)).1, rfl, (Prod.mk.inj (sm_inj h)).2⟩ hr dX9_views_31
    · have h := if_f c6 h
      refine wg_iload_n X 3 dX9_views_19 rfl rfl ?_
      refine wg_i2l X dX9_views_20 ?_
      refine wg_lconst (v := 0) X dX9_views_21 (by decide) ?_
      refine wg_lconst (v := 1) X dX9_views_22 (by decide) ?_
      obtain ⟨r8, h7, h⟩ := bd_some h
      refine wg_callSi (As := [.long (p3.toInt64), .long (0 : Int64), .long (1 : Int64)]) (rest := []) X (c_X9_in l E ad S C M p3.toInt64 (0 : Int64) (1 : Int64)  h7) T_yX9_in k_1021 dX9_views_23 rfl rfl (Nat.le_of_ble_eq_true rfl) ⟨Nat.le_of_ble_eq_true rfl, Nat.le_of_ble_eq_true rfl⟩ ⟨Nat.zero_le _, Nat.zero_le _⟩ ?_
      refine wg_if_ne X 32 dX9_views_26 (by decide) (fun c9 => ?_) (fun c9 => ?_)
      · have h := if_f c9 h
        refine wg_aload_n X 0 dX9_views_32 rfl rfl ?_
        refine wg_iconst (v := -1) X dX9_views_33 (by decide) ?_
        obtain ⟨M10, e11, h⟩ := lt_some h
        refine wg_putMe X cl9 (SMi hS 55 9 rfl) 33 (by decide) dX9_views_34 k_915 rfl rfl rfl rfl e11 ?_
        refine wg_aload_n X 0 dX9_views_37 rfl rfl ?_
        refine wg_iconst (v := -1) X dX9_views_38 (by decide) ?_
        obtain ⟨M12, e13, h⟩ := lt_some h
        refine wg_putMe X cl9 (SMi hS 55 9 rfl) 34 (by decide) dX9_views_39 k_916 rfl rfl rfl rfl e13 ?_
        refine wg_aload_n X 0 dX9_views_42 rfl rfl ?_
        refine wg_iload_n X 2 dX9_views_43 rfl rfl ?_
        refine wg_iconst (v := 0) X dX9_views_44 (by decide) ?_
        refine wg_iconst (v := 0) X dX9_views_45 (by decide) ?_
        refine wg_iconst (v := 0) X dX9_views_46 (by decide) ?_
        refine wg_iload_n X 1 dX9_views_47 rfl rfl ?_
        obtain ⟨M15, h14, h⟩ := bd_some h
        refine wg_callVv (As := [.int p2, .int (0 : Int32), .int (0 : Int32), .int (0 : Int32), .int p1]) (rest := []) X (c_X9_viewsFrom_e l E ad S hS N C M12 p2 (0 : Int32) (0 : Int32) (0 : Int32) p1  h14) T_yX9_viewsFrom k_1270 cl9 (SMi hS 55 9 rfl) dX9_views_48 rfl rfl (Nat.le_of_ble_eq_true rfl) ⟨Nat.le_of_ble_eq_true rfl, Nat.le_of_ble_eq_true rfl⟩ ⟨Nat.zero_le _, Nat.zero_le _⟩ ?_
        refine wg_iload_n X 3 dX9_views_51 rfl rfl ?_
        refine wg_if_ne X 62 dX9_views_52 (by decide) (fun c16 => ?_) (fun c16 => ?_)
        · have h := if_f c16 h
          refine wg_aload_n X 0 dX9_views_62 rfl rfl ?_
          refine wg_getM X cl9 (SMi hS 55 9 rfl) 34 (by decide) dX9_views_63 k_916 rfl ?_
          exact wg_iret X ⟨(Prod.mk.inj (sm_inj h)).1, rfl, (Prod.mk.inj (sm_inj h)).2⟩ hr dX9_views_66
        · have h := if_t c16 h
          refine wg_aload_n X 0 dX9_views_55 rfl rfl ?_
          refine wg_getM X cl9 (SMi hS 55 9 rfl) 33 (by decide) dX9_views_56 k_915 rfl ?_
          refine wg_goto X 66 dX9_views_59 (by decide) ?_
          exact wg_iret X ⟨(Prod.mk.inj (sm_inj h)).1, rfl, (Prod.mk.inj (sm_inj h)).2⟩ hr dX9_views_66
      · have h := if_t c9 h
        refine wg_bipush (v := -2) X dX9_views_29 (by decide) ?_
        exact wg_iret X ⟨(Prod.mk.inj (sm_inj h)).1, rfl, (Prod.mk.inj (sm_inj h)).2⟩ hr dX9_views_31
-- WindowsGiveModel.draws(II)I (('c', 55), 'i', 'i')
def f_X9_draws_l5 (N : Nat)  (x1 : Int32) (M : wg_M) (x3 : Int32) (x4 : Int32) : Option ((wg_M × Int32 × Int32) ⊕ (wg_M × Int32 × Int32)) :=
  if (32 : Int32) ≤ x4 then (
    some (.inr (M, x3, x4)))
  else (
    ck (inb x4 32) <|
    ck (inb x4 32) <|
    lt_ (wg_sM M 68 x4.toNatClampNeg (M.1 59 x4.toNatClampNeg)) fun M4 =>
    lt_ ((x3 * (1103515245 : Int32)) + (12345 : Int32)) fun v6 =>
    ck (inb x4 32) <|
    lt_ (wg_sM M4 59 x4.toNatClampNeg (((v6.toUInt32 >>> ((9 : Int32).toUInt32 &&& Int32.toUInt32 31)).toInt32) - ((v6.toUInt32 >>> ((9 : Int32).toUInt32 &&& Int32.toUInt32 31)).toInt32) / (10 : Int32) * (10 : Int32))) fun M9 =>
    lt_ (x4 + (1 : Int32)) fun v11 =>
    some (.inl (M9, v6, v11)))
def f_X9_draws_l64 (N : Nat)   (M : wg_M) (x4 : Int32) : Option ((wg_M × Int32) ⊕ (wg_M × Int32)) :=
  if (32 : Int32) ≤ x4 then (
    some (.inr (M, x4)))
  else (
    ck (inb x4 32) <|
    ck (inb x4 32) <|
    lt_ (wg_sM M 59 x4.toNatClampNeg (M.1 68 x4.toNatClampNeg)) fun M25 =>
    lt_ (x4 + (1 : Int32)) fun v27 =>
    some (.inl (M25, v27)))
def f_X9_draws (N : Nat) (M : wg_M) (p1 : Int32) (p2 : Int32) : Option (Int32 × wg_M) :=
  bd3 (lp (fun o => f_X9_draws_l5 N  p1 o.1 o.2.1 o.2.2) N (M, p2, (0 : Int32))) fun M13 v14 v15 =>
  bd (f_X9_rains N M13 p1) fun M21 =>
  bd2 (lp (fun o => f_X9_draws_l64 N   o.1 o.2) N (M21, (0 : Int32))) fun M29 v30 =>
  bd (f_X9_wetAll N M29 ) fun r36 =>
  some (r36, M29)
abbrev G_X9_draws (p : Program) (l : Launch) (e : Env) (s : State) (m : MethodId) (args : Array Value) (below : List Frame) (meth : Method) (c : Code) (E : wg_Ev) (ad : Nat → Nat) (S : wg_Sh) (r0 : Int32) (C0 : wg_C) (M0 : wg_M) (pc : Nat) (C : wg_C) (M : wg_M) (lv : List (Nat × Value)) (st : List Value) : Prop := wg_G p l e (wg_Rm 77 2976) s m args below meth c (MQ below (wg_Qi E ad S r0 C0 M0) args s 0 0 (wg_A E)) 5 E ad S 0 0 pc C M lv st
set_option maxHeartbeats 4000000 in
set_option maxRecDepth 100000 in
theorem L_X9_draws_l5 {p : Program} {l : Launch} {e : Env} {s : State} {m : MethodId} {args : Array Value} {below : List Frame} {meth : Method} {c : Code} {E : wg_Ev} {ad : Nat → Nat} {S : wg_Sh} (X : wg_X p s m args meth c cX9_draws 5 RX9 E) (hr : meth.sig.returnType = (some .int)) (hS : wg_SM S) (r0 : Int32) (D0 : wg_M) (C : wg_C) (N : Nat)   (x1 : Int32)  : ∀ (n : Nat) (M : wg_M) (x3 : Int32) (x4 : Int32) (o : (wg_M × Int32 × Int32)), lp (fun o => f_X9_draws_l5 N  x1 o.1 o.2.1 o.2.2) n (M, x3, x4) = some o → (∀ (Dy : wg_M) (y3 : Int32) (y4 : Int32), o = (Dy, y3, y4) → G_X9_draws p l e s m args below meth c E ad S r0 C D0 56 C Dy [(0, .ref (ad 55)), (1, .int x1), (3, .int y3), (4, .int y4)] []) → G_X9_draws p l e s m args below meth c E ad S r0 C D0 5 C M [(0, .ref (ad 55)), (1, .int x1), (3, .int x3), (4, .int x4)] [] := by
  intro n
  induction n with
  | zero => exact fun _ _ _ o h => (lp_zero h).elim
  | succ n ih =>
    intro M x3 x4 o h K
    obtain ⟨o1, hb, h2⟩ := lp_some h
    replace hb : f_X9_draws_l5 N  x1 M x3 x4 = some o1 := hb
    clear h
    have Kc : ∀ (Dy : wg_M) (y3 : Int32) (y4 : Int32), o1 = Sum.inl (Dy, y3, y4) → G_X9_draws p l e s m args below meth c E ad S r0 C D0 5 C Dy [(0, .ref (ad 55)), (1, .int x1), (3, .int y3), (4, .int y4)] [] := fun Dy y3 y4 e1 => by
      subst e1
      exact ih Dy y3 y4 o h2 K
    have Ke : ∀ (Dy : wg_M) (y3 : Int32) (y4 : Int32), o1 = Sum.inr ((Dy, y3, y4)) → G_X9_draws p l e s m args below meth c E ad S r0 C D0 56 C Dy [(0, .ref (ad 55)), (1, .int x1), (3, .int y3), (4, .int y4)] [] := fun Dy y3 y4 e1 => by
      subst e1
      exact K Dy y3 y4 (sm_inj (α := (wg_M × Int32 × Int32)) h2).symm
    clear ih K h2
    unfold f_X9_draws_l5 at hb
    have h := hb
    clear hb
    refine wg_iload X 3 dX9_draws_5 rfl ?_
    refine wg_bipush (v := 32) X dX9_draws_7 (by decide) ?_
    refine wg_icmp_ge X 56 dX9_draws_9 (by decide) (fun c1 => ?_) (fun c1 => ?_)
    · have h := if_t c1 h
      exact Ke M x3 x4 (sm_inj h).symm
    · have h := if_f c1 h
      refine wg_aload_n X 0 dX9_draws_12 rfl rfl ?_
      refine wg_getR (b := 68) X cl9 (SMi hS 55 9 rfl) 35 (by decide) dX9_draws_13 k_917 rfl (SMr hS 35 68 rfl) ?_
      refine wg_iload X 3 dX9_draws_16 rfl ?_
      refine wg_aload_n X 0 dX9_draws_18 rfl rfl ?_
      refine wg_getR (b := 59) X cl9 (SMi hS 55 9 rfl) 7 (by decide) dX9_draws_19 k_889 rfl (SMr hS 7 59 rfl) ?_
      refine wg_iload X 3 dX9_draws_22 rfl ?_
      obtain ⟨z2, h⟩ := ck_some h
      refine wg_mald X (SMi hS 59 11 rfl) (SMl hS 59 32 rfl) z2 dX9_draws_24 ?_
      obtain ⟨z3, h⟩ := ck_some h
      obtain ⟨M4, e5, h⟩ := lt_some h
      refine wg_maste X (SMi hS 68 11 rfl) (SMl hS 68 32 rfl) z3 dX9_draws_25 e5 ?_
      refine wg_iload_n X 2 dX9_draws_26 rfl rfl ?_
      refine wg_ldcw (v := 1103515245) X dX9_draws_27 k_1282 ?_
      refine wg_imul X dX9_draws_30 ?_
      refine wg_sipush (v := 12345) X dX9_draws_31 (by decide) ?_
      refine wg_iadd X dX9_draws_34 ?_
      obtain ⟨v6, e7, h⟩ := lt_some h
      refine wg_istore_n (lv' := [(3, .int v6), (0, .ref (ad 55)), (1, .int x1), (4, .int x4)]) X dX9_draws_35 rfl e7 (by decide) rfl ?_
      refine wg_aload_n X 1 dX9_draws_36 rfl rfl ?_
      refine wg_getR (b := 59) X cl9 (SMi hS 55 9 rfl) 7 (by decide) dX9_draws_37 k_889 rfl (SMr hS 7 59 rfl) ?_
      refine wg_iload X 3 dX9_draws_40 rfl ?_
      refine wg_iload_n X 0 dX9_draws_42 rfl rfl ?_
      refine wg_bipush (v := 9) X dX9_draws_43 (by decide) ?_
      refine wg_iushr X dX9_draws_45 ?_
      refine wg_bipush (v := 10) X dX9_draws_46 (by decide) ?_
      refine wg_irem X dX9_draws_48 (by decide) ?_
      obtain ⟨z8, h⟩ := ck_some h
      obtain ⟨M9, e10, h⟩ := lt_some h
      refine wg_maste X (SMi hS 59 11 rfl) (SMl hS 59 32 rfl) z8 dX9_draws_49 e10 ?_
      obtain ⟨v11, e12, h⟩ := lt_some h
      refine wg_iinc (lv' := [(4, .int v11), (3, .int v6), (0, .ref (ad 55)), (1, .int x1)]) X 3 dX9_draws_50 rfl e12 (by decide) rfl ?_
      refine wg_goto X 5 dX9_draws_53 (by decide) ?_
      refine wg_pick [2, 3, 1, 0] (lv' := [(0, .ref (ad 55)), (1, .int x1), (3, .int v6), (4, .int v11)]) rfl ?_
      exact Kc M9 v6 v11 (sm_inj h).symm
set_option maxHeartbeats 4000000 in
set_option maxRecDepth 100000 in
theorem L_X9_draws_l64 {p : Program} {l : Launch} {e : Env} {s : State} {m : MethodId} {args : Array Value} {below : List Frame} {meth : Method} {c : Code} {E : wg_Ev} {ad : Nat → Nat} {S : wg_Sh} (X : wg_X p s m args meth c cX9_draws 5 RX9 E) (hr : meth.sig.returnType = (some .int)) (hS : wg_SM S) (r0 : Int32) (D0 : wg_M) (C : wg_C) (N : Nat)     : ∀ (n : Nat) (M : wg_M) (x4 : Int32) (o : (wg_M × Int32)), lp (fun o => f_X9_draws_l64 N   o.1 o.2) n (M, x4) = some o → (∀ (Dy : wg_M) (y4 : Int32), o = (Dy, y4) → G_X9_draws p l e s m args below meth c E ad S r0 C D0 91 C Dy [(0, .ref (ad 55)), (4, .int y4)] []) → G_X9_draws p l e s m args below meth c E ad S r0 C D0 64 C M [(0, .ref (ad 55)), (4, .int x4)] [] := by
  intro n
  induction n with
  | zero => exact fun _ _ o h => (lp_zero h).elim
  | succ n ih =>
    intro M x4 o h K
    obtain ⟨o1, hb, h2⟩ := lp_some h
    replace hb : f_X9_draws_l64 N   M x4 = some o1 := hb
    clear h
    have Kc : ∀ (Dy : wg_M) (y4 : Int32), o1 = Sum.inl (Dy, y4) → G_X9_draws p l e s m args below meth c E ad S r0 C D0 64 C Dy [(0, .ref (ad 55)), (4, .int y4)] [] := fun Dy y4 e1 => by
      subst e1
      exact ih Dy y4 o h2 K
    have Ke : ∀ (Dy : wg_M) (y4 : Int32), o1 = Sum.inr ((Dy, y4)) → G_X9_draws p l e s m args below meth c E ad S r0 C D0 91 C Dy [(0, .ref (ad 55)), (4, .int y4)] [] := fun Dy y4 e1 => by
      subst e1
      exact K Dy y4 (sm_inj (α := (wg_M × Int32)) h2).symm
    clear ih K h2
    unfold f_X9_draws_l64 at hb
    have h := hb
    clear hb
    refine wg_iload X 1 dX9_draws_64 rfl ?_
    refine wg_bipush (v := 32) X dX9_draws_66 (by decide) ?_
    refine wg_icmp_ge X 91 dX9_draws_68 (by decide) (fun c22 => ?_) (fun c22 => ?_)
    · have h := if_t c22 h
      exact Ke M x4 (sm_inj h).symm
    · have h := if_f c22 h
      refine wg_aload_n X 0 dX9_draws_71 rfl rfl ?_
      refine wg_getR (b := 59) X cl9 (SMi hS 55 9 rfl) 7 (by decide) dX9_draws_72 k_889 rfl (SMr hS 7 59 rfl) ?_
      refine wg_iload X 1 dX9_draws_75 rfl ?_
      refine wg_aload_n X 0 dX9_draws_77 rfl rfl ?_
      refine wg_getR (b := 68) X cl9 (SMi hS 55 9 rfl) 35 (by decide) dX9_draws_78 k_917 rfl (SMr hS 35 68 rfl) ?_
      refine wg_iload X 1 dX9_draws_81 rfl ?_
      obtain ⟨z23, h⟩ := ck_some h
      refine wg_mald X (SMi hS 68 11 rfl) (SMl hS 68 32 rfl) z23 dX9_draws_83 ?_
      obtain ⟨z24, h⟩ := ck_some h
      obtain ⟨M25, e26, h⟩ := lt_some h
      refine wg_maste X (SMi hS 59 11 rfl) (SMl hS 59 32 rfl) z24 dX9_draws_84 e26 ?_
      obtain ⟨v27, e28, h⟩ := lt_some h
      refine wg_iinc (lv' := [(4, .int v27), (0, .ref (ad 55))]) X 1 dX9_draws_85 rfl e28 (by decide) rfl ?_
      refine wg_goto X 64 dX9_draws_88 (by decide) ?_
      refine wg_pick [1, 0] (lv' := [(0, .ref (ad 55)), (4, .int v27)]) rfl ?_
      exact Kc M25 v27 (sm_inj h).symm
set_option maxHeartbeats 4000000 in
set_option maxRecDepth 100000 in
theorem c_X9_draws (l : Launch) (E : wg_Ev) (ad : Nat → Nat) (S : wg_Sh) (hS : wg_SM S) (N : Nat) (C : wg_C) (M : wg_M) (p1 : Int32) (p2 : Int32)  {r0 : Int32} {D0 : wg_M} (h : f_X9_draws N M p1 p2 = some (r0, D0)) : wg_Ci l yX9_draws cX9_draws 5 (some .int) 77 2976 E ad S C M [.ref (ad 55), .int p1, .int p2] r0 C D0 := by
  refine wg_start (own := RX9) (by decide +kernel) rfl (Nat.le_of_ble_eq_true rfl) ?_
  intro p e s m below meth c X hr hnm
  refine wg_lv (lv' := [(0, .ref (ad 55)), (1, .int p1), (2, .int p2)]) rfl ?_
  unfold f_X9_draws at h
  refine wg_iload_n X 2 dX9_draws_0 rfl rfl ?_
  refine wg_istore_n (lv' := [(3, .int p2), (0, .ref (ad 55)), (1, .int p1), (2, .int p2)]) X dX9_draws_1 rfl rfl (by decide) rfl ?_
  refine wg_iconst (v := 0) X dX9_draws_2 (by decide) ?_
  refine wg_istore (lv' := [(4, .int (0 : Int32)), (3, .int p2), (0, .ref (ad 55)), (1, .int p1), (2, .int p2)]) X dX9_draws_3 rfl (by decide) rfl ?_
  obtain ⟨o16, h17, h⟩ := bd3_o h
  refine wg_pick [2, 3, 1, 0] (lv' := [(0, .ref (ad 55)), (1, .int p1), (3, .int p2), (4, .int (0 : Int32))]) rfl ?_
  refine L_X9_draws_l5 X hr hS r0 D0 C N   p1  N M p2 (0 : Int32) o16 h17 (fun M13 v14 v15 e19 => ?_)
  · subst o16
    replace h := bd3_in h
    refine wg_aload_n X 0 dX9_draws_56 rfl rfl ?_
    refine wg_iload_n X 1 dX9_draws_57 rfl rfl ?_
    obtain ⟨M21, h20, h⟩ := bd_some h
    refine wg_callVv (As := [.int p1]) (rest := []) X (c_X9_rains l E ad S hS N C M13 p1  h20) T_yX9_rains k_1254 cl9 (SMi hS 55 9 rfl) dX9_draws_58 rfl rfl (Nat.le_of_ble_eq_true rfl) ⟨Nat.le_of_ble_eq_true rfl, Nat.le_of_ble_eq_true rfl⟩ ⟨Nat.zero_le _, Nat.zero_le _⟩ ?_
    refine wg_iconst (v := 0) X dX9_draws_61 (by decide) ?_
    refine wg_istore (lv' := [(4, .int (0 : Int32)), (0, .ref (ad 55)), (1, .int p1), (3, .int v14)]) X dX9_draws_62 rfl (by decide) rfl ?_
    obtain ⟨o31, h32, h⟩ := bd2_o h
    refine wg_pick [1, 0] (lv' := [(0, .ref (ad 55)), (4, .int (0 : Int32))]) rfl ?_
    refine L_X9_draws_l64 X hr hS r0 D0 C N     N M21 (0 : Int32) o31 h32 (fun M29 v30 e34 => ?_)
    · subst o31
      replace h := bd2_in h
      refine wg_aload_n X 0 dX9_draws_91 rfl rfl ?_
      obtain ⟨r36, h35, h⟩ := bd_some h
      refine wg_callVi (As := []) (rest := []) X (c_X9_wetAll l E ad S hS N C M29   h35) T_yX9_wetAll k_1262 cl9 (SMi hS 55 9 rfl) dX9_draws_92 rfl rfl (Nat.le_of_ble_eq_true rfl) ⟨Nat.le_of_ble_eq_true rfl, Nat.le_of_ble_eq_true rfl⟩ ⟨Nat.zero_le _, Nat.zero_le _⟩ ?_
      exact wg_iret X ⟨(Prod.mk.inj (sm_inj h)).1, rfl, (Prod.mk.inj (sm_inj h)).2⟩ hr dX9_draws_95
-- WindowsGiveModel.drawn(II)I (('c', 55), 'i', 'i')
def f_X9_drawn (N : Nat) (M : wg_M) (p1 : Int32) (p2 : Int32) : Option (Int32 × wg_M) :=
  bd (f_X9_isRoom p1) fun r2 =>
  if r2 = 0 then (
    some ((-2 : Int32), M))
  else (
    bd2 (f_X9_draws N M p1 p2) fun r5 M6 =>
    some (r5, M6))
set_option maxHeartbeats 4000000 in
set_option maxRecDepth 100000 in
theorem c_X9_drawn (l : Launch) (E : wg_Ev) (ad : Nat → Nat) (S : wg_Sh) (hS : wg_SM S) (N : Nat) (C : wg_C) (M : wg_M) (p1 : Int32) (p2 : Int32)  {r0 : Int32} {D0 : wg_M} (h : f_X9_drawn N M p1 p2 = some (r0, D0)) : wg_Ci l yX9_drawn cX9_drawn 3 (some .int) 78 3000 E ad S C M [.ref (ad 55), .int p1, .int p2] r0 C D0 := by
  refine wg_start (own := RX9) (by decide +kernel) rfl (Nat.le_of_ble_eq_true rfl) ?_
  intro p e s m below meth c X hr hnm
  refine wg_lv (lv' := [(0, .ref (ad 55)), (1, .int p1), (2, .int p2)]) rfl ?_
  unfold f_X9_drawn at h
  refine wg_iload_n X 1 dX9_drawn_0 rfl rfl ?_
  obtain ⟨r2, h1, h⟩ := bd_some h
  refine wg_callSi (As := [.int p1]) (rest := []) X (c_X9_isRoom l E ad S C M p1  h1) T_yX9_isRoom k_1050 dX9_drawn_1 rfl rfl (Nat.le_of_ble_eq_true rfl) ⟨Nat.le_of_ble_eq_true rfl, Nat.le_of_ble_eq_true rfl⟩ ⟨Nat.zero_le _, Nat.zero_le _⟩ ?_
  refine wg_if_eq X 16 dX9_drawn_4 (by decide) (fun c3 => ?_) (fun c3 => ?_)
  · have h := if_t c3 h
    refine wg_bipush (v := -2) X dX9_drawn_16 (by decide) ?_
    exact wg_iret X ⟨(Prod.mk.inj (sm_inj h)).1, rfl, (Prod.mk.inj (sm_inj h)).2⟩ hr dX9_drawn_18
  · have h := if_f c3 h
    refine wg_aload_n X 0 dX9_drawn_7 rfl rfl ?_
    refine wg_iload_n X 1 dX9_drawn_8 rfl rfl ?_
    refine wg_iload_n X 2 dX9_drawn_9 rfl rfl ?_
    obtain ⟨r5, M6, h4, h⟩ := bd2_some h
    refine wg_callVi (As := [.int p1, .int p2]) (rest := []) X (c_X9_draws l E ad S hS N C M p1 p2  h4) T_yX9_draws k_1278 cl9 (SMi hS 55 9 rfl) dX9_drawn_10 rfl rfl (Nat.le_of_ble_eq_true rfl) ⟨Nat.le_of_ble_eq_true rfl, Nat.le_of_ble_eq_true rfl⟩ ⟨Nat.zero_le _, Nat.zero_le _⟩ ?_
    refine wg_goto X 18 dX9_drawn_13 (by decide) ?_
    exact wg_iret X ⟨(Prod.mk.inj (sm_inj h)).1, rfl, (Prod.mk.inj (sm_inj h)).2⟩ hr dX9_drawn_18
-- WindowsGiveModel.chance(IIIII)J (('c', 55), 'i', 'i', 'i', 'i', 'i')
def f_X9_chance_l53 (N : Nat)  (x1 : Int32) (x2 : Int32) (x3 : Int32) (x4 : Int32) (x5 : Int32) (M : wg_M) (x6 : Int64) (x8 : Int32) : Option ((wg_M × Int64 × Int32) ⊕ (wg_M × Int64 × Int32)) :=
  if x3 ≤ x8 then (
    some (.inr (M, x6, x8)))
  else (
    bd2 (f_X9_draws N M x1 (x2 + x8)) fun r15 M16 =>
    if x4 < r15 then (
      lt_ (x6 + (0 : Int64)) fun v18 =>
      lt_ (x8 + (1 : Int32)) fun v20 =>
      some (.inl (M16, v18, v20)))
    else (
      lt_ (x6 + (1 : Int64)) fun v22 =>
      lt_ (x8 + (1 : Int32)) fun v24 =>
      some (.inl (M16, v22, v24))))
def f_X9_chance_l97 (N : Nat) (M : wg_M)  (x3 : Int32) (x5 : Int32) (x6 : Int64) (x8 : Int64) (x10 : Int64) : Option ((Int64 × Int64) ⊕ (Int64 × Int64)) :=
  if (lg_cmp x10 (0 : Int64)) = 0 then (
    some (.inr (x8, x10)))
  else (
    ck (¬ x10 = 0) <|
    lt_ (x8 - x8 / x10 * x10) fun v37 =>
    some (.inl (x10, v37)))
def f_X9_chance (N : Nat) (M : wg_M) (p1 : Int32) (p2 : Int32) (p3 : Int32) (p4 : Int32) (p5 : Int32) : Option (Int64 × wg_M) :=
  bd (f_X9_isRoom p1) fun r2 =>
  if r2 = 0 then (
    some ((-4611686018427387904 : Int64), M))
  else (
    bd (f_X9_in p3.toInt64 (1 : Int64) (20 : Int64)) fun r5 =>
    if r5 = 0 then (
      some ((-4611686018427387904 : Int64), M))
    else (
      bd (f_X9_in p4.toInt64 (0 : Int64) (99999 : Int64)) fun r8 =>
      if r8 = 0 then (
        some ((-4611686018427387904 : Int64), M))
      else (
        bd (f_X9_in p5.toInt64 (0 : Int64) (1 : Int64)) fun r11 =>
        if r11 = 0 then (
          some ((-4611686018427387904 : Int64), M))
        else (
          bd3 (lp (fun o => f_X9_chance_l53 N  p1 p2 p3 p4 p5 o.1 o.2.1 o.2.2) N (M, (0 : Int64), (0 : Int32))) fun M26 v27 v28 =>
          lt_ (p3.toInt64) fun v33 =>
          bd2 (lp (fun o => f_X9_chance_l97 N M26  p3 p5 v27 o.1 o.2) N (v27, v33)) fun v39 v40 =>
          if p5 = 0 then (
            ck (¬ v39 = 0) <|
            some ((v27 / v39), M26))
          else (
            ck (¬ v39 = 0) <|
            some ((p3.toInt64 / v39), M26))))))
abbrev G_X9_chance (p : Program) (l : Launch) (e : Env) (s : State) (m : MethodId) (args : Array Value) (below : List Frame) (meth : Method) (c : Code) (E : wg_Ev) (ad : Nat → Nat) (S : wg_Sh) (r0 : Int64) (C0 : wg_C) (M0 : wg_M) (pc : Nat) (C : wg_C) (M : wg_M) (lv : List (Nat × Value)) (st : List Value) : Prop := wg_G p l e (wg_Rm 78 3000) s m args below meth c (MQ below (wg_Ql E ad S r0 C0 M0) args s 0 0 (wg_A E)) 14 E ad S 0 0 pc C M lv st
set_option maxHeartbeats 4000000 in
set_option maxRecDepth 100000 in
theorem L_X9_chance_l53 {p : Program} {l : Launch} {e : Env} {s : State} {m : MethodId} {args : Array Value} {below : List Frame} {meth : Method} {c : Code} {E : wg_Ev} {ad : Nat → Nat} {S : wg_Sh} (X : wg_X p s m args meth c cX9_chance 14 RX9 E) (hr : meth.sig.returnType = (some .long)) (hS : wg_SM S) (r0 : Int64) (D0 : wg_M) (C : wg_C) (N : Nat)   (x1 : Int32) (x2 : Int32) (x3 : Int32) (x4 : Int32) (x5 : Int32)  : ∀ (n : Nat) (M : wg_M) (x6 : Int64) (x8 : Int32) (o : (wg_M × Int64 × Int32)), lp (fun o => f_X9_chance_l53 N  x1 x2 x3 x4 x5 o.1 o.2.1 o.2.2) n (M, x6, x8) = some o → (∀ (Dy : wg_M) (y6 : Int64) (y8 : Int32), o = (Dy, y6, y8) → G_X9_chance p l e s m args below meth c E ad S r0 C D0 89 C Dy [(0, .ref (ad 55)), (1, .int x1), (2, .int x2), (3, .int x3), (4, .int x4), (5, .int x5), (6, .long y6), (8, .int y8)] []) → G_X9_chance p l e s m args below meth c E ad S r0 C D0 53 C M [(0, .ref (ad 55)), (1, .int x1), (2, .int x2), (3, .int x3), (4, .int x4), (5, .int x5), (6, .long x6), (8, .int x8)] [] := by
  intro n
  induction n with
  | zero => exact fun _ _ _ o h => (lp_zero h).elim
  | succ n ih =>
    intro M x6 x8 o h K
    obtain ⟨o1, hb, h2⟩ := lp_some h
    replace hb : f_X9_chance_l53 N  x1 x2 x3 x4 x5 M x6 x8 = some o1 := hb
    clear h
    have Kc : ∀ (Dy : wg_M) (y6 : Int64) (y8 : Int32), o1 = Sum.inl (Dy, y6, y8) → G_X9_chance p l e s m args below meth c E ad S r0 C D0 53 C Dy [(0, .ref (ad 55)), (1, .int x1), (2, .int x2), (3, .int x3), (4, .int x4), (5, .int x5), (6, .long y6), (8, .int y8)] [] := fun Dy y6 y8 e1 => by
      subst e1
      exact ih Dy y6 y8 o h2 K
    have Ke : ∀ (Dy : wg_M) (y6 : Int64) (y8 : Int32), o1 = Sum.inr ((Dy, y6, y8)) → G_X9_chance p l e s m args below meth c E ad S r0 C D0 89 C Dy [(0, .ref (ad 55)), (1, .int x1), (2, .int x2), (3, .int x3), (4, .int x4), (5, .int x5), (6, .long y6), (8, .int y8)] [] := fun Dy y6 y8 e1 => by
      subst e1
      exact K Dy y6 y8 (sm_inj (α := (wg_M × Int64 × Int32)) h2).symm
    clear ih K h2
    unfold f_X9_chance_l53 at hb
    have h := hb
    clear hb
    refine wg_iload X 7 dX9_chance_53 rfl ?_
    refine wg_iload_n X 3 dX9_chance_55 rfl rfl ?_
    refine wg_icmp_ge X 89 dX9_chance_56 (by decide) (fun c13 => ?_) (fun c13 => ?_)
    · have h := if_t c13 h
      exact Ke M x6 x8 (sm_inj h).symm
    · have h := if_f c13 h
      refine wg_lload X 6 dX9_chance_59 rfl ?_
      refine wg_aload_n X 0 dX9_chance_61 rfl rfl ?_
      refine wg_iload_n X 1 dX9_chance_62 rfl rfl ?_
      refine wg_iload_n X 2 dX9_chance_63 rfl rfl ?_
      refine wg_iload X 7 dX9_chance_64 rfl ?_
      refine wg_iadd X dX9_chance_66 ?_
      obtain ⟨r15, M16, h14, h⟩ := bd2_some h
      refine wg_callVi (As := [.int x1, .int (x2 + x8)]) (rest := [.long x6]) X (c_X9_draws l E ad S hS N C M x1 (x2 + x8)  h14) T_yX9_draws k_1278 cl9 (SMi hS 55 9 rfl) dX9_chance_67 rfl rfl (Nat.le_of_ble_eq_true rfl) ⟨Nat.le_of_ble_eq_true rfl, Nat.le_of_ble_eq_true rfl⟩ ⟨Nat.zero_le _, Nat.zero_le _⟩ ?_
      refine wg_iload X 4 dX9_chance_70 rfl ?_
      refine wg_icmp_gt X 79 dX9_chance_72 (by decide) (fun c17 => ?_) (fun c17 => ?_)
      · have h := if_t c17 h
        refine wg_lconst (v := 0) X dX9_chance_79 (by decide) ?_
        refine wg_ladd X dX9_chance_80 ?_
        obtain ⟨v18, e19, h⟩ := lt_some h
        refine wg_lstore (lv' := [(6, .long v18), (0, .ref (ad 55)), (1, .int x1), (2, .int x2), (3, .int x3), (4, .int x4), (5, .int x5), (8, .int x8)]) X dX9_chance_81 e19 (by decide) rfl ?_
        obtain ⟨v20, e21, h⟩ := lt_some h
        refine wg_iinc (lv' := [(8, .int v20), (6, .long v18), (0, .ref (ad 55)), (1, .int x1), (2, .int x2), (3, .int x3), (4, .int x4), (5, .int x5)]) X 7 dX9_chance_83 rfl e21 (by decide) rfl ?_
        refine wg_goto X 53 dX9_chance_86 (by decide) ?_
        refine wg_pick [2, 3, 4, 5, 6, 7, 1, 0] (lv' := [(0, .ref (ad 55)), (1, .int x1), (2, .int x2), (3, .int x3), (4, .int x4), (5, .int x5), (6, .long v18), (8, .int v20)]) rfl ?_
        exact Kc M16 v18 v20 (sm_inj h).symm
      · have h := if_f c17 h
        refine wg_lconst (v := 1) X dX9_chance_75 (by decide) ?_
        refine wg_goto X 80 dX9_chance_76 (by decide) ?_
        refine wg_ladd X dX9_chance_80 ?_
        obtain ⟨v22, e23, h⟩ := lt_some h
        refine wg_lstore (lv' := [(6, .long v22), (0, .ref (ad 55)), (1, .int x1), (2, .int x2), (3, .int x3), (4, .int x4), (5, .int x5), (8, .int x8)]) X dX9_chance_81 e23 (by decide) rfl ?_
        obtain ⟨v24, e25, h⟩ := lt_some h
        refine wg_iinc (lv' := [(8, .int v24), (6, .long v22), (0, .ref (ad 55)), (1, .int x1), (2, .int x2), (3, .int x3), (4, .int x4), (5, .int x5)]) X 7 dX9_chance_83 rfl e25 (by decide) rfl ?_
        refine wg_goto X 53 dX9_chance_86 (by decide) ?_
        refine wg_pick [2, 3, 4, 5, 6, 7, 1, 0] (lv' := [(0, .ref (ad 55)), (1, .int x1), (2, .int x2), (3, .int x3), (4, .int x4), (5, .int x5), (6, .long v22), (8, .int v24)]) rfl ?_
        exact Kc M16 v22 v24 (sm_inj h).symm
set_option maxHeartbeats 4000000 in
set_option maxRecDepth 100000 in
theorem L_X9_chance_l97 {p : Program} {l : Launch} {e : Env} {s : State} {m : MethodId} {args : Array Value} {below : List Frame} {meth : Method} {c : Code} {E : wg_Ev} {ad : Nat → Nat} {S : wg_Sh} (X : wg_X p s m args meth c cX9_chance 14 RX9 E) (hr : meth.sig.returnType = (some .long)) (hS : wg_SM S) (r0 : Int64) (D0 : wg_M) (C : wg_C) (N : Nat)  (M : wg_M)  (x3 : Int32) (x5 : Int32) (x6 : Int64)  : ∀ (n : Nat) (x8 : Int64) (x10 : Int64) (o : (Int64 × Int64)), lp (fun o => f_X9_chance_l97 N M  x3 x5 x6 o.1 o.2) n (x8, x10) = some o → (∀ (y8 : Int64) (y10 : Int64), o = (y8, y10) → G_X9_chance p l e s m args below meth c E ad S r0 C D0 122 C M [(3, .int x3), (5, .int x5), (6, .long x6), (8, .long y8), (10, .long y10)] []) → G_X9_chance p l e s m args below meth c E ad S r0 C D0 97 C M [(3, .int x3), (5, .int x5), (6, .long x6), (8, .long x8), (10, .long x10)] [] := by
  intro n
  induction n with
  | zero => exact fun _ _ o h => (lp_zero h).elim
  | succ n ih =>
    intro x8 x10 o h K
    obtain ⟨o1, hb, h2⟩ := lp_some h
    replace hb : f_X9_chance_l97 N M  x3 x5 x6 x8 x10 = some o1 := hb
    clear h
    have Kc : ∀ (y8 : Int64) (y10 : Int64), o1 = Sum.inl (y8, y10) → G_X9_chance p l e s m args below meth c E ad S r0 C D0 97 C M [(3, .int x3), (5, .int x5), (6, .long x6), (8, .long y8), (10, .long y10)] [] := fun y8 y10 e1 => by
      subst e1
      exact ih y8 y10 o h2 K
    have Ke : ∀ (y8 : Int64) (y10 : Int64), o1 = Sum.inr ((y8, y10)) → G_X9_chance p l e s m args below meth c E ad S r0 C D0 122 C M [(3, .int x3), (5, .int x5), (6, .long x6), (8, .long y8), (10, .long y10)] [] := fun y8 y10 e1 => by
      subst e1
      exact K y8 y10 (sm_inj (α := (Int64 × Int64)) h2).symm
    clear ih K h2
    unfold f_X9_chance_l97 at hb
    have h := hb
    clear hb
    refine wg_lload X 4 dX9_chance_97 rfl ?_
    refine wg_lconst (v := 0) X dX9_chance_99 (by decide) ?_
    refine wg_lcmp X dX9_chance_100 ?_
    refine wg_if_eq X 122 dX9_chance_101 (by decide) (fun c35 => ?_) (fun c35 => ?_)
    · have h := if_t c35 h
      exact Ke x8 x10 (sm_inj h).symm
    · have h := if_f c35 h
      refine wg_lload X 3 dX9_chance_104 rfl ?_
      refine wg_lload X 4 dX9_chance_106 rfl ?_
      obtain ⟨z36, h⟩ := ck_some h
      refine wg_lrem X dX9_chance_108 z36 ?_
      obtain ⟨v37, e38, h⟩ := lt_some h
      refine wg_lstore (lv' := [(12, .long v37), (3, .int x3), (5, .int x5), (6, .long x6), (8, .long x8), (10, .long x10)]) X dX9_chance_109 e38 (by decide) rfl ?_
      refine wg_lload X 5 dX9_chance_111 rfl ?_
      refine wg_lstore (lv' := [(8, .long x10), (12, .long v37), (3, .int x3), (5, .int x5), (6, .long x6), (10, .long x10)]) X dX9_chance_113 rfl (by decide) rfl ?_
      refine wg_lload X 1 dX9_chance_115 rfl ?_
      refine wg_lstore (lv' := [(10, .long v37), (8, .long x10), (12, .long v37), (3, .int x3), (5, .int x5), (6, .long x6)]) X dX9_chance_117 rfl (by decide) rfl ?_
      refine wg_goto X 97 dX9_chance_119 (by decide) ?_
      refine wg_pick [3, 4, 5, 1, 0] (lv' := [(3, .int x3), (5, .int x5), (6, .long x6), (8, .long x10), (10, .long v37)]) rfl ?_
      exact Kc x10 v37 (sm_inj h).symm
set_option maxHeartbeats 4000000 in
set_option maxRecDepth 100000 in
theorem c_X9_chance (l : Launch) (E : wg_Ev) (ad : Nat → Nat) (S : wg_Sh) (hS : wg_SM S) (N : Nat) (C : wg_C) (M : wg_M) (p1 : Int32) (p2 : Int32) (p3 : Int32) (p4 : Int32) (p5 : Int32)  {r0 : Int64} {D0 : wg_M} (h : f_X9_chance N M p1 p2 p3 p4 p5 = some (r0, D0)) : wg_Cl l yX9_chance cX9_chance 14 (some .long) 78 3000 E ad S C M [.ref (ad 55), .int p1, .int p2, .int p3, .int p4, .int p5] r0 C D0 := by
  refine wg_start (own := RX9) (by decide +kernel) rfl (Nat.le_of_ble_eq_true rfl) ?_
  intro p e s m below meth c X hr hnm
  refine wg_lv (lv' := [(0, .ref (ad 55)), (1, .int p1), (2, .int p2), (3, .int p3), (4, .int p4), (5, .int p5)]) rfl ?_
  unfold f_X9_chance at h
  refine wg_iload_n X 1 dX9_chance_0 rfl rfl ?_
  obtain ⟨r2, h1, h⟩ := bd_some h
  refine wg_callSi (As := [.int p1]) (rest := []) X (c_X9_isRoom l E ad S C M p1  h1) T_yX9_isRoom k_1050 dX9_chance_1 rfl rfl (Nat.le_of_ble_eq_true rfl) ⟨Nat.le_of_ble_eq_true rfl, Nat.le_of_ble_eq_true rfl⟩ ⟨Nat.zero_le _, Nat.zero_le _⟩ ?_
  refine wg_if_eq X 43 dX9_chance_4 (by decide) (fun c3 => ?_) (fun c3 => ?_)
  · have h := if_t c3 h
    refine wg_ldc2 (v := -4611686018427387904) X dX9_chance_43 k_1289 ?_
    exact wg_lret X ⟨(Prod.mk.inj (sm_inj h)).1, rfl, (Prod.mk.inj (sm_inj h)).2⟩ hr dX9_chance_46
  · have h := if_f c3 h
    refine wg_iload_n X 3 dX9_chance_7 rfl rfl ?_
    refine wg_i2l X dX9_chance_8 ?_
    refine wg_lconst (v := 1) X dX9_chance_9 (by decide) ?_
    refine wg_ldc2 (v := 20) X dX9_chance_10 k_1287 ?_
    obtain ⟨r5, h4, h⟩ := bd_some h
    refine wg_callSi (As := [.long (p3.toInt64), .long (1 : Int64), .long (20 : Int64)]) (rest := []) X (c_X9_in l E ad S C M p3.toInt64 (1 : Int64) (20 : Int64)  h4) T_yX9_in k_1021 dX9_chance_13 rfl rfl (Nat.le_of_ble_eq_true rfl) ⟨Nat.le_of_ble_eq_true rfl, Nat.le_of_ble_eq_true rfl⟩ ⟨Nat.zero_le _, Nat.zero_le _⟩ ?_
    refine wg_if_eq X 43 dX9_chance_16 (by decide) (fun c6 => ?_) (fun c6 => ?_)
    · have h := if_t c6 h
      refine wg_ldc2 (v := -4611686018427387904) X dX9_chance_43 k_1289 ?_
      exact wg_lret X ⟨(Prod.mk.inj (sm_inj h)).1, rfl, (Prod.mk.inj (sm_inj h)).2⟩ hr dX9_chance_46
    · have h := if_f c6 h
      refine wg_iload X 4 dX9_chance_19 rfl ?_
      refine wg_i2l X dX9_chance_21 ?_
      refine wg_lconst (v := 0) X dX9_chance_22 (by decide) ?_
      refine wg_ldc2 (v := 99999) X dX9_chance_23 k_1288 ?_
      obtain ⟨r8, h7, h⟩ := bd_some h
      refine wg_callSi (As := [.long (p4.toInt64), .long (0 : Int64), .long (99999 : Int64)]) (rest := []) X (c_X9_in l E ad S C M p4.toInt64 (0 : Int64) (99999 : Int64)  h7) T_yX9_in k_1021 dX9_chance_26 rfl rfl (Nat.le_of_ble_eq_true rfl) ⟨Nat.le_of_ble_eq_true rfl, Nat.le_of_ble_eq_true rfl⟩ ⟨Nat.zero_le _, Nat.zero_le _⟩ ?_
      refine wg_if_eq X 43 dX9_chance_29 (by decide) (fun c9 => ?_) (fun c9 => ?_)
      · have h := if_t c9 h
        refine wg_ldc2 (v := -4611686018427387904) X dX9_chance_43 k_1289 ?_
        exact wg_lret X ⟨(Prod.mk.inj (sm_inj h)).1, rfl, (Prod.mk.inj (sm_inj h)).2⟩ hr dX9_chance_46
      · have h := if_f c9 h
        refine wg_iload X 5 dX9_chance_32 rfl ?_
        refine wg_i2l X dX9_chance_34 ?_
        refine wg_lconst (v := 0) X dX9_chance_35 (by decide) ?_
        refine wg_lconst (v := 1) X dX9_chance_36 (by decide) ?_
        obtain ⟨r11, h10, h⟩ := bd_some h
        refine wg_callSi (As := [.long (p5.toInt64), .long (0 : Int64), .long (1 : Int64)]) (rest := []) X (c_X9_in l E ad S C M p5.toInt64 (0 : Int64) (1 : Int64)  h10) T_yX9_in k_1021 dX9_chance_37 rfl rfl (Nat.le_of_ble_eq_true rfl) ⟨Nat.le_of_ble_eq_true rfl, Nat.le_of_ble_eq_true rfl⟩ ⟨Nat.zero_le _, Nat.zero_le _⟩ ?_
        refine wg_if_ne X 47 dX9_chance_40 (by decide) (fun c12 => ?_) (fun c12 => ?_)
        · have h := if_f c12 h
          refine wg_lconst (v := 0) X dX9_chance_47 (by decide) ?_
          refine wg_lstore (lv' := [(6, .long (0 : Int64)), (0, .ref (ad 55)), (1, .int p1), (2, .int p2), (3, .int p3), (4, .int p4), (5, .int p5)]) X dX9_chance_48 rfl (by decide) rfl ?_
          refine wg_iconst (v := 0) X dX9_chance_50 (by decide) ?_
          refine wg_istore (lv' := [(8, .int (0 : Int32)), (6, .long (0 : Int64)), (0, .ref (ad 55)), (1, .int p1), (2, .int p2), (3, .int p3), (4, .int p4), (5, .int p5)]) X dX9_chance_51 rfl (by decide) rfl ?_
          obtain ⟨o29, h30, h⟩ := bd3_o h
          refine wg_pick [2, 3, 4, 5, 6, 7, 1, 0] (lv' := [(0, .ref (ad 55)), (1, .int p1), (2, .int p2), (3, .int p3), (4, .int p4), (5, .int p5), (6, .long (0 : Int64)), (8, .int (0 : Int32))]) rfl ?_
          refine L_X9_chance_l53 X hr hS r0 D0 C N   p1 p2 p3 p4 p5  N M (0 : Int64) (0 : Int32) o29 h30 (fun M26 v27 v28 e32 => ?_)
          · subst o29
            replace h := bd3_in h
            refine wg_lload X 6 dX9_chance_89 rfl ?_
            refine wg_lstore (lv' := [(8, .long v27), (0, .ref (ad 55)), (1, .int p1), (2, .int p2), (3, .int p3), (4, .int p4), (5, .int p5), (6, .long v27)]) X dX9_chance_91 rfl (by decide) rfl ?_
            refine wg_iload_n X 4 dX9_chance_93 rfl rfl ?_
            refine wg_i2l X dX9_chance_94 ?_
            obtain ⟨v33, e34, h⟩ := lt_some h
            refine wg_lstore (lv' := [(10, .long v33), (8, .long v27), (0, .ref (ad 55)), (1, .int p1), (2, .int p2), (3, .int p3), (4, .int p4), (5, .int p5), (6, .long v27)]) X dX9_chance_95 e34 (by decide) rfl ?_
            obtain ⟨o41, h42, h⟩ := bd2_o h
            refine wg_pick [5, 7, 8, 1, 0] (lv' := [(3, .int p3), (5, .int p5), (6, .long v27), (8, .long v27), (10, .long v33)]) rfl ?_
            refine L_X9_chance_l97 X hr hS r0 D0 C N  M26  p3 p5 v27  N v27 v33 o41 h42 (fun v39 v40 e44 => ?_)
            · subst o41
              replace h := bd2_in h
              refine wg_iload X 1 dX9_chance_122 rfl ?_
              refine wg_if_ne X 135 dX9_chance_124 (by decide) (fun c45 => ?_) (fun c45 => ?_)
              · have h := if_f c45 h
                refine wg_iload_n X 0 dX9_chance_135 rfl rfl ?_
                refine wg_i2l X dX9_chance_136 ?_
                refine wg_lload X 3 dX9_chance_137 rfl ?_
                obtain ⟨z46, h⟩ := ck_some h
                refine wg_ldiv X dX9_chance_139 z46 ?_
                exact wg_lret X ⟨(Prod.mk.inj (sm_inj h)).1, rfl, (Prod.mk.inj (sm_inj h)).2⟩ hr dX9_chance_140
              · have h := if_t c45 h
                refine wg_lload X 2 dX9_chance_127 rfl ?_
                refine wg_lload X 3 dX9_chance_129 rfl ?_
                obtain ⟨z47, h⟩ := ck_some h
                refine wg_ldiv X dX9_chance_131 z47 ?_
                refine wg_goto X 140 dX9_chance_132 (by decide) ?_
                exact wg_lret X ⟨(Prod.mk.inj (sm_inj h)).1, rfl, (Prod.mk.inj (sm_inj h)).2⟩ hr dX9_chance_140
        · have h := if_t c12 h
          refine wg_ldc2 (v := -4611686018427387904) X dX9_chance_43 k_1289 ?_
          exact wg_lret X ⟨(Prod.mk.inj (sm_inj h)).1, rfl, (Prod.mk.inj (sm_inj h)).2⟩ hr dX9_chance_46
-- WindowsGiveModel.image()I (('c', 55),)
def f_X9_image_l2 (N : Nat)   (M : wg_M) (x1 : Int32) : Option ((wg_M × Int32) ⊕ (wg_M × Int32)) :=
  if (32 : Int32) ≤ x1 then (
    some (.inr (M, x1)))
  else (
    ck (inb x1 32) <|
    ck (inb x1 32) <|
    lt_ (wg_sM M 69 x1.toNatClampNeg (M.1 59 x1.toNatClampNeg)) fun M4 =>
    lt_ (x1 + (1 : Int32)) fun v6 =>
    some (.inl (M4, v6)))
def f_X9_image_l28 (N : Nat)   (M : wg_M) (x1 : Int32) : Option ((wg_M × Int32) ⊕ (wg_M × Int32)) :=
  if (8 : Int32) ≤ x1 then (
    some (.inr (M, x1)))
  else (
    ck (inb x1 8) <|
    ck (inb x1 32) <|
    lt_ (wg_sM M 70 x1.toNatClampNeg (M.1 61 x1.toNatClampNeg)) fun M17 =>
    ck (inb x1 8) <|
    ck (inb ((8 : Int32) + x1) 32) <|
    lt_ (wg_sM M17 70 ((8 : Int32) + x1).toNatClampNeg (M17.1 62 x1.toNatClampNeg)) fun M21 =>
    ck (inb x1 8) <|
    ck (inb ((16 : Int32) + x1) 32) <|
    lt_ (wg_sM M21 70 ((16 : Int32) + x1).toNatClampNeg (M21.1 63 x1.toNatClampNeg)) fun M25 =>
    ck (inb x1 8) <|
    ck (inb ((24 : Int32) + x1) 32) <|
    lt_ (wg_sM M25 70 ((24 : Int32) + x1).toNatClampNeg (M25.1 64 x1.toNatClampNeg)) fun M29 =>
    lt_ (x1 + (1 : Int32)) fun v31 =>
    some (.inl (M29, v31)))
def f_X9_image (N : Nat) (M : wg_M)  : Option (Int32 × wg_M) :=
  bd2 (lp (fun o => f_X9_image_l2 N   o.1 o.2) N (M, (0 : Int32))) fun M8 v9 =>
  bd2 (lp (fun o => f_X9_image_l28 N   o.1 o.2) N (M8, (0 : Int32))) fun M33 v34 =>
  lt_ (wg_sM M33 55 38 (M33.1 55 13)) fun M39 =>
  lt_ (wg_sM M39 55 39 (M39.1 55 4)) fun M41 =>
  some ((M41.1 55 13), M41)
abbrev G_X9_image (p : Program) (l : Launch) (e : Env) (s : State) (m : MethodId) (args : Array Value) (below : List Frame) (meth : Method) (c : Code) (E : wg_Ev) (ad : Nat → Nat) (S : wg_Sh) (r0 : Int32) (C0 : wg_C) (M0 : wg_M) (pc : Nat) (C : wg_C) (M : wg_M) (lv : List (Nat × Value)) (st : List Value) : Prop := wg_G p l e (wg_Rm 0 0) s m args below meth c (MQ below (wg_Qi E ad S r0 C0 M0) args s 0 0 (wg_A E)) 2 E ad S 0 0 pc C M lv st
set_option maxHeartbeats 4000000 in
set_option maxRecDepth 100000 in
theorem L_X9_image_l2 {p : Program} {l : Launch} {e : Env} {s : State} {m : MethodId} {args : Array Value} {below : List Frame} {meth : Method} {c : Code} {E : wg_Ev} {ad : Nat → Nat} {S : wg_Sh} (X : wg_X p s m args meth c cX9_image 2 RX9 E) (hr : meth.sig.returnType = (some .int)) (hS : wg_SM S) (r0 : Int32) (D0 : wg_M) (C : wg_C) (N : Nat)     : ∀ (n : Nat) (M : wg_M) (x1 : Int32) (o : (wg_M × Int32)), lp (fun o => f_X9_image_l2 N   o.1 o.2) n (M, x1) = some o → (∀ (Dy : wg_M) (y1 : Int32), o = (Dy, y1) → G_X9_image p l e s m args below meth c E ad S r0 C D0 26 C Dy [(0, .ref (ad 55)), (1, .int y1)] []) → G_X9_image p l e s m args below meth c E ad S r0 C D0 2 C M [(0, .ref (ad 55)), (1, .int x1)] [] := by
  intro n
  induction n with
  | zero => exact fun _ _ o h => (lp_zero h).elim
  | succ n ih =>
    intro M x1 o h K
    obtain ⟨o1, hb, h2⟩ := lp_some h
    replace hb : f_X9_image_l2 N   M x1 = some o1 := hb
    clear h
    have Kc : ∀ (Dy : wg_M) (y1 : Int32), o1 = Sum.inl (Dy, y1) → G_X9_image p l e s m args below meth c E ad S r0 C D0 2 C Dy [(0, .ref (ad 55)), (1, .int y1)] [] := fun Dy y1 e1 => by
      subst e1
      exact ih Dy y1 o h2 K
    have Ke : ∀ (Dy : wg_M) (y1 : Int32), o1 = Sum.inr ((Dy, y1)) → G_X9_image p l e s m args below meth c E ad S r0 C D0 26 C Dy [(0, .ref (ad 55)), (1, .int y1)] [] := fun Dy y1 e1 => by
      subst e1
      exact K Dy y1 (sm_inj (α := (wg_M × Int32)) h2).symm
    clear ih K h2
    unfold f_X9_image_l2 at hb
    have h := hb
    clear hb
    refine wg_iload_n X 1 dX9_image_2 rfl rfl ?_
    refine wg_bipush (v := 32) X dX9_image_3 (by decide) ?_
    refine wg_icmp_ge X 26 dX9_image_5 (by decide) (fun c1 => ?_) (fun c1 => ?_)
    · have h := if_t c1 h
      exact Ke M x1 (sm_inj h).symm
    · have h := if_f c1 h
      refine wg_aload_n X 0 dX9_image_8 rfl rfl ?_
      refine wg_getR (b := 69) X cl9 (SMi hS 55 9 rfl) 36 (by decide) dX9_image_9 k_918 rfl (SMr hS 36 69 rfl) ?_
      refine wg_iload_n X 1 dX9_image_12 rfl rfl ?_
      refine wg_aload_n X 0 dX9_image_13 rfl rfl ?_
      refine wg_getR (b := 59) X cl9 (SMi hS 55 9 rfl) 7 (by decide) dX9_image_14 k_889 rfl (SMr hS 7 59 rfl) ?_
      refine wg_iload_n X 1 dX9_image_17 rfl rfl ?_
      obtain ⟨z2, h⟩ := ck_some h
      refine wg_mald X (SMi hS 59 11 rfl) (SMl hS 59 32 rfl) z2 dX9_image_18 ?_
      obtain ⟨z3, h⟩ := ck_some h
      obtain ⟨M4, e5, h⟩ := lt_some h
      refine wg_maste X (SMi hS 69 11 rfl) (SMl hS 69 32 rfl) z3 dX9_image_19 e5 ?_
      obtain ⟨v6, e7, h⟩ := lt_some h
      refine wg_iinc (lv' := [(1, .int v6), (0, .ref (ad 55))]) X 1 dX9_image_20 rfl e7 (by decide) rfl ?_
      refine wg_goto X 2 dX9_image_23 (by decide) ?_
      refine wg_pick [1, 0] (lv' := [(0, .ref (ad 55)), (1, .int v6)]) rfl ?_
      exact Kc M4 v6 (sm_inj h).symm
set_option maxHeartbeats 4000000 in
set_option maxRecDepth 100000 in
theorem L_X9_image_l28 {p : Program} {l : Launch} {e : Env} {s : State} {m : MethodId} {args : Array Value} {below : List Frame} {meth : Method} {c : Code} {E : wg_Ev} {ad : Nat → Nat} {S : wg_Sh} (X : wg_X p s m args meth c cX9_image 2 RX9 E) (hr : meth.sig.returnType = (some .int)) (hS : wg_SM S) (r0 : Int32) (D0 : wg_M) (C : wg_C) (N : Nat)     : ∀ (n : Nat) (M : wg_M) (x1 : Int32) (o : (wg_M × Int32)), lp (fun o => f_X9_image_l28 N   o.1 o.2) n (M, x1) = some o → (∀ (Dy : wg_M) (y1 : Int32), o = (Dy, y1) → G_X9_image p l e s m args below meth c E ad S r0 C D0 97 C Dy [(0, .ref (ad 55)), (1, .int y1)] []) → G_X9_image p l e s m args below meth c E ad S r0 C D0 28 C M [(0, .ref (ad 55)), (1, .int x1)] [] := by
  intro n
  induction n with
  | zero => exact fun _ _ o h => (lp_zero h).elim
  | succ n ih =>
    intro M x1 o h K
    obtain ⟨o1, hb, h2⟩ := lp_some h
    replace hb : f_X9_image_l28 N   M x1 = some o1 := hb
    clear h
    have Kc : ∀ (Dy : wg_M) (y1 : Int32), o1 = Sum.inl (Dy, y1) → G_X9_image p l e s m args below meth c E ad S r0 C D0 28 C Dy [(0, .ref (ad 55)), (1, .int y1)] [] := fun Dy y1 e1 => by
      subst e1
      exact ih Dy y1 o h2 K
    have Ke : ∀ (Dy : wg_M) (y1 : Int32), o1 = Sum.inr ((Dy, y1)) → G_X9_image p l e s m args below meth c E ad S r0 C D0 97 C Dy [(0, .ref (ad 55)), (1, .int y1)] [] := fun Dy y1 e1 => by
      subst e1
      exact K Dy y1 (sm_inj (α := (wg_M × Int32)) h2).symm
    clear ih K h2
    unfold f_X9_image_l28 at hb
    have h := hb
    clear hb
    refine wg_iload_n X 1 dX9_image_28 rfl rfl ?_
    refine wg_bipush (v := 8) X dX9_image_29 (by decide) ?_
    refine wg_icmp_ge X 97 dX9_image_31 (by decide) (fun c14 => ?_) (fun c14 => ?_)
    · have h := if_t c14 h
      exact Ke M x1 (sm_inj h).symm
    · have h := if_f c14 h
      refine wg_aload_n X 0 dX9_image_34 rfl rfl ?_
      refine wg_getR (b := 70) X cl9 (SMi hS 55 9 rfl) 37 (by decide) dX9_image_35 k_919 rfl (SMr hS 37 70 rfl) ?_
      refine wg_iload_n X 1 dX9_image_38 rfl rfl ?_
      refine wg_aload_n X 0 dX9_image_39 rfl rfl ?_
      refine wg_getR (b := 61) X cl9 (SMi hS 55 9 rfl) 9 (by decide) dX9_image_40 k_891 rfl (SMr hS 9 61 rfl) ?_
      refine wg_iload_n X 1 dX9_image_43 rfl rfl ?_
      obtain ⟨z15, h⟩ := ck_some h
      refine wg_mald X (SMi hS 61 11 rfl) (SMl hS 61 8 rfl) z15 dX9_image_44 ?_
      obtain ⟨z16, h⟩ := ck_some h
      obtain ⟨M17, e18, h⟩ := lt_some h
      refine wg_maste X (SMi hS 70 11 rfl) (SMl hS 70 32 rfl) z16 dX9_image_45 e18 ?_
      refine wg_aload_n X 0 dX9_image_46 rfl rfl ?_
      refine wg_getR (b := 70) X cl9 (SMi hS 55 9 rfl) 37 (by decide) dX9_image_47 k_919 rfl (SMr hS 37 70 rfl) ?_
      refine wg_bipush (v := 8) X dX9_image_50 (by decide) ?_
      refine wg_iload_n X 1 dX9_image_52 rfl rfl ?_
      refine wg_iadd X dX9_image_53 ?_
      refine wg_aload_n X 0 dX9_image_54 rfl rfl ?_
      refine wg_getR (b := 62) X cl9 (SMi hS 55 9 rfl) 10 (by decide) dX9_image_55 k_892 rfl (SMr hS 10 62 rfl) ?_
      refine wg_iload_n X 1 dX9_image_58 rfl rfl ?_
      obtain ⟨z19, h⟩ := ck_some h
      refine wg_mald X (SMi hS 62 11 rfl) (SMl hS 62 8 rfl) z19 dX9_image_59 ?_
      obtain ⟨z20, h⟩ := ck_some h
      obtain ⟨M21, e22, h⟩ := lt_some h
      refine wg_maste X (SMi hS 70 11 rfl) (SMl hS 70 32 rfl) z20 dX9_image_60 e22 ?_
      refine wg_aload_n X 0 dX9_image_61 rfl rfl ?_
      refine wg_getR (b := 70) X cl9 (SMi hS 55 9 rfl) 37 (by decide) dX9_image_62 k_919 rfl (SMr hS 37 70 rfl) ?_
      refine wg_bipush (v := 16) X dX9_image_65 (by decide) ?_
      refine wg_iload_n X 1 dX9_image_67 rfl rfl ?_
      refine wg_iadd X dX9_image_68 ?_
      refine wg_aload_n X 0 dX9_image_69 rfl rfl ?_
      refine wg_getR (b := 63) X cl9 (SMi hS 55 9 rfl) 11 (by decide) dX9_image_70 k_893 rfl (SMr hS 11 63 rfl) ?_
      refine wg_iload_n X 1 dX9_image_73 rfl rfl ?_
      obtain ⟨z23, h⟩ := ck_some h
      refine wg_mald X (SMi hS 63 11 rfl) (SMl hS 63 8 rfl) z23 dX9_image_74 ?_
      obtain ⟨z24, h⟩ := ck_some h
      obtain ⟨M25, e26, h⟩ := lt_some h
      refine wg_maste X (SMi hS 70 11 rfl) (SMl hS 70 32 rfl) z24 dX9_image_75 e26 ?_
      refine wg_aload_n X 0 dX9_image_76 rfl rfl ?_
      refine wg_getR (b := 70) X cl9 (SMi hS 55 9 rfl) 37 (by decide) dX9_image_77 k_919 rfl (SMr hS 37 70 rfl) ?_
      refine wg_bipush (v := 24) X dX9_image_80 (by decide) ?_
      refine wg_iload_n X 1 dX9_image_82 rfl rfl ?_
      refine wg_iadd X dX9_image_83 ?_
      refine wg_aload_n X 0 dX9_image_84 rfl rfl ?_
      refine wg_getR (b := 64) X cl9 (SMi hS 55 9 rfl) 12 (by decide) dX9_image_85 k_894 rfl (SMr hS 12 64 rfl) ?_
      refine wg_iload_n X 1 dX9_image_88 rfl rfl ?_
      obtain ⟨z27, h⟩ := ck_some h
      refine wg_mald X (SMi hS 64 11 rfl) (SMl hS 64 8 rfl) z27 dX9_image_89 ?_
      obtain ⟨z28, h⟩ := ck_some h
      obtain ⟨M29, e30, h⟩ := lt_some h
      refine wg_maste X (SMi hS 70 11 rfl) (SMl hS 70 32 rfl) z28 dX9_image_90 e30 ?_
      obtain ⟨v31, e32, h⟩ := lt_some h
      refine wg_iinc (lv' := [(1, .int v31), (0, .ref (ad 55))]) X 1 dX9_image_91 rfl e32 (by decide) rfl ?_
      refine wg_goto X 28 dX9_image_94 (by decide) ?_
      refine wg_pick [1, 0] (lv' := [(0, .ref (ad 55)), (1, .int v31)]) rfl ?_
      exact Kc M29 v31 (sm_inj h).symm
set_option maxHeartbeats 4000000 in
set_option maxRecDepth 100000 in
theorem c_X9_image (l : Launch) (E : wg_Ev) (ad : Nat → Nat) (S : wg_Sh) (hS : wg_SM S) (N : Nat) (C : wg_C) (M : wg_M)   {r0 : Int32} {D0 : wg_M} (h : f_X9_image N M  = some (r0, D0)) : wg_Ci l yX9_image cX9_image 2 (some .int) 0 0 E ad S C M [.ref (ad 55)] r0 C D0 := by
  refine wg_start (own := RX9) (by decide +kernel) rfl (Nat.le_of_ble_eq_true rfl) ?_
  intro p e s m below meth c X hr hnm
  refine wg_lv (lv' := [(0, .ref (ad 55))]) rfl ?_
  unfold f_X9_image at h
  refine wg_iconst (v := 0) X dX9_image_0 (by decide) ?_
  refine wg_istore_n (lv' := [(1, .int (0 : Int32)), (0, .ref (ad 55))]) X dX9_image_1 rfl rfl (by decide) rfl ?_
  obtain ⟨o10, h11, h⟩ := bd2_o h
  refine wg_pick [1, 0] (lv' := [(0, .ref (ad 55)), (1, .int (0 : Int32))]) rfl ?_
  refine L_X9_image_l2 X hr hS r0 D0 C N     N M (0 : Int32) o10 h11 (fun M8 v9 e13 => ?_)
  · subst o10
    replace h := bd2_in h
    refine wg_iconst (v := 0) X dX9_image_26 (by decide) ?_
    refine wg_istore_n (lv' := [(1, .int (0 : Int32)), (0, .ref (ad 55))]) X dX9_image_27 rfl rfl (by decide) rfl ?_
    obtain ⟨o35, h36, h⟩ := bd2_o h
    refine wg_pick [1, 0] (lv' := [(0, .ref (ad 55)), (1, .int (0 : Int32))]) rfl ?_
    refine L_X9_image_l28 X hr hS r0 D0 C N     N M8 (0 : Int32) o35 h36 (fun M33 v34 e38 => ?_)
    · subst o35
      replace h := bd2_in h
      refine wg_aload_n X 0 dX9_image_97 rfl rfl ?_
      refine wg_aload_n X 0 dX9_image_98 rfl rfl ?_
      refine wg_getM X cl9 (SMi hS 55 9 rfl) 13 (by decide) dX9_image_99 k_895 rfl ?_
      obtain ⟨M39, e40, h⟩ := lt_some h
      refine wg_putMe X cl9 (SMi hS 55 9 rfl) 38 (by decide) dX9_image_102 k_920 rfl rfl rfl rfl e40 ?_
      refine wg_aload_n X 0 dX9_image_105 rfl rfl ?_
      refine wg_aload_n X 0 dX9_image_106 rfl rfl ?_
      refine wg_getM X cl9 (SMi hS 55 9 rfl) 4 (by decide) dX9_image_107 k_886 rfl ?_
      obtain ⟨M41, e42, h⟩ := lt_some h
      refine wg_putMe X cl9 (SMi hS 55 9 rfl) 39 (by decide) dX9_image_110 k_921 rfl rfl rfl rfl e42 ?_
      refine wg_aload_n X 0 dX9_image_113 rfl rfl ?_
      refine wg_getM X cl9 (SMi hS 55 9 rfl) 13 (by decide) dX9_image_114 k_895 rfl ?_
      exact wg_iret X ⟨(Prod.mk.inj (sm_inj h)).1, rfl, (Prod.mk.inj (sm_inj h)).2⟩ hr dX9_image_117
-- WindowsGiveModel.back()I (('c', 55),)
def f_X9_back_l13 (N : Nat)   (M : wg_M) (x1 : Int32) : Option ((wg_M × Int32) ⊕ (wg_M × Int32)) :=
  if (32 : Int32) ≤ x1 then (
    some (.inr (M, x1)))
  else (
    ck (inb x1 32) <|
    ck (inb x1 32) <|
    lt_ (wg_sM M 59 x1.toNatClampNeg (M.1 69 x1.toNatClampNeg)) fun M5 =>
    lt_ (x1 + (1 : Int32)) fun v7 =>
    some (.inl (M5, v7)))
def f_X9_back_l39 (N : Nat)   (M : wg_M) (x1 : Int32) : Option ((wg_M × Int32) ⊕ (wg_M × Int32)) :=
  if (8 : Int32) ≤ x1 then (
    some (.inr (M, x1)))
  else (
    ck (inb x1 32) <|
    ck (inb x1 8) <|
    lt_ (wg_sM M 61 x1.toNatClampNeg (M.1 70 x1.toNatClampNeg)) fun M18 =>
    ck (inb ((8 : Int32) + x1) 32) <|
    ck (inb x1 8) <|
    lt_ (wg_sM M18 62 x1.toNatClampNeg (M18.1 70 ((8 : Int32) + x1).toNatClampNeg)) fun M22 =>
    ck (inb ((16 : Int32) + x1) 32) <|
    ck (inb x1 8) <|
    lt_ (wg_sM M22 63 x1.toNatClampNeg (M22.1 70 ((16 : Int32) + x1).toNatClampNeg)) fun M26 =>
    ck (inb ((24 : Int32) + x1) 32) <|
    ck (inb x1 8) <|
    lt_ (wg_sM M26 64 x1.toNatClampNeg (M26.1 70 ((24 : Int32) + x1).toNatClampNeg)) fun M30 =>
    lt_ (x1 + (1 : Int32)) fun v32 =>
    some (.inl (M30, v32)))
def f_X9_back (N : Nat) (M : wg_M)  : Option (Int32 × wg_M) :=
  if (M.1 55 38) = (-1 : Int32) then (
    some ((-3 : Int32), M))
  else (
    bd2 (lp (fun o => f_X9_back_l13 N   o.1 o.2) N (M, (0 : Int32))) fun M9 v10 =>
    bd2 (lp (fun o => f_X9_back_l39 N   o.1 o.2) N (M9, (0 : Int32))) fun M34 v35 =>
    lt_ (wg_sM M34 55 13 (M34.1 55 38)) fun M40 =>
    lt_ (wg_sM M40 55 4 (M40.1 55 39)) fun M42 =>
    some ((M42.1 55 13), M42))
abbrev G_X9_back (p : Program) (l : Launch) (e : Env) (s : State) (m : MethodId) (args : Array Value) (below : List Frame) (meth : Method) (c : Code) (E : wg_Ev) (ad : Nat → Nat) (S : wg_Sh) (r0 : Int32) (C0 : wg_C) (M0 : wg_M) (pc : Nat) (C : wg_C) (M : wg_M) (lv : List (Nat × Value)) (st : List Value) : Prop := wg_G p l e (wg_Rm 0 0) s m args below meth c (MQ below (wg_Qi E ad S r0 C0 M0) args s 0 0 (wg_A E)) 2 E ad S 0 0 pc C M lv st
set_option maxHeartbeats 4000000 in
set_option maxRecDepth 100000 in
theorem L_X9_back_l13 {p : Program} {l : Launch} {e : Env} {s : State} {m : MethodId} {args : Array Value} {below : List Frame} {meth : Method} {c : Code} {E : wg_Ev} {ad : Nat → Nat} {S : wg_Sh} (X : wg_X p s m args meth c cX9_back 2 RX9 E) (hr : meth.sig.returnType = (some .int)) (hS : wg_SM S) (r0 : Int32) (D0 : wg_M) (C : wg_C) (N : Nat)     : ∀ (n : Nat) (M : wg_M) (x1 : Int32) (o : (wg_M × Int32)), lp (fun o => f_X9_back_l13 N   o.1 o.2) n (M, x1) = some o → (∀ (Dy : wg_M) (y1 : Int32), o = (Dy, y1) → G_X9_back p l e s m args below meth c E ad S r0 C D0 37 C Dy [(0, .ref (ad 55)), (1, .int y1)] []) → G_X9_back p l e s m args below meth c E ad S r0 C D0 13 C M [(0, .ref (ad 55)), (1, .int x1)] [] := by
  intro n
  induction n with
  | zero => exact fun _ _ o h => (lp_zero h).elim
  | succ n ih =>
    intro M x1 o h K
    obtain ⟨o1, hb, h2⟩ := lp_some h
    replace hb : f_X9_back_l13 N   M x1 = some o1 := hb
    clear h
    have Kc : ∀ (Dy : wg_M) (y1 : Int32), o1 = Sum.inl (Dy, y1) → G_X9_back p l e s m args below meth c E ad S r0 C D0 13 C Dy [(0, .ref (ad 55)), (1, .int y1)] [] := fun Dy y1 e1 => by
      subst e1
      exact ih Dy y1 o h2 K
    have Ke : ∀ (Dy : wg_M) (y1 : Int32), o1 = Sum.inr ((Dy, y1)) → G_X9_back p l e s m args below meth c E ad S r0 C D0 37 C Dy [(0, .ref (ad 55)), (1, .int y1)] [] := fun Dy y1 e1 => by
      subst e1
      exact K Dy y1 (sm_inj (α := (wg_M × Int32)) h2).symm
    clear ih K h2
    unfold f_X9_back_l13 at hb
    have h := hb
    clear hb
    refine wg_iload_n X 1 dX9_back_13 rfl rfl ?_
    refine wg_bipush (v := 32) X dX9_back_14 (by decide) ?_
    refine wg_icmp_ge X 37 dX9_back_16 (by decide) (fun c2 => ?_) (fun c2 => ?_)
    · have h := if_t c2 h
      exact Ke M x1 (sm_inj h).symm
    · have h := if_f c2 h
      refine wg_aload_n X 0 dX9_back_19 rfl rfl ?_
      refine wg_getR (b := 59) X cl9 (SMi hS 55 9 rfl) 7 (by decide) dX9_back_20 k_889 rfl (SMr hS 7 59 rfl) ?_
      refine wg_iload_n X 1 dX9_back_23 rfl rfl ?_
      refine wg_aload_n X 0 dX9_back_24 rfl rfl ?_
      refine wg_getR (b := 69) X cl9 (SMi hS 55 9 rfl) 36 (by decide) dX9_back_25 k_918 rfl (SMr hS 36 69 rfl) ?_
      refine wg_iload_n X 1 dX9_back_28 rfl rfl ?_
      obtain ⟨z3, h⟩ := ck_some h
      refine wg_mald X (SMi hS 69 11 rfl) (SMl hS 69 32 rfl) z3 dX9_back_29 ?_
      obtain ⟨z4, h⟩ := ck_some h
      obtain ⟨M5, e6, h⟩ := lt_some h
      refine wg_maste X (SMi hS 59 11 rfl) (SMl hS 59 32 rfl) z4 dX9_back_30 e6 ?_
      obtain ⟨v7, e8, h⟩ := lt_some h
      refine wg_iinc (lv' := [(1, .int v7), (0, .ref (ad 55))]) X 1 dX9_back_31 rfl e8 (by decide) rfl ?_
      refine wg_goto X 13 dX9_back_34 (by decide) ?_
      refine wg_pick [1, 0] (lv' := [(0, .ref (ad 55)), (1, .int v7)]) rfl ?_
      exact Kc M5 v7 (sm_inj h).symm
set_option maxHeartbeats 4000000 in
set_option maxRecDepth 100000 in
theorem L_X9_back_l39 {p : Program} {l : Launch} {e : Env} {s : State} {m : MethodId} {args : Array Value} {below : List Frame} {meth : Method} {c : Code} {E : wg_Ev} {ad : Nat → Nat} {S : wg_Sh} (X : wg_X p s m args meth c cX9_back 2 RX9 E) (hr : meth.sig.returnType = (some .int)) (hS : wg_SM S) (r0 : Int32) (D0 : wg_M) (C : wg_C) (N : Nat)     : ∀ (n : Nat) (M : wg_M) (x1 : Int32) (o : (wg_M × Int32)), lp (fun o => f_X9_back_l39 N   o.1 o.2) n (M, x1) = some o → (∀ (Dy : wg_M) (y1 : Int32), o = (Dy, y1) → G_X9_back p l e s m args below meth c E ad S r0 C D0 108 C Dy [(0, .ref (ad 55)), (1, .int y1)] []) → G_X9_back p l e s m args below meth c E ad S r0 C D0 39 C M [(0, .ref (ad 55)), (1, .int x1)] [] := by
  intro n
  induction n with
  | zero => exact fun _ _ o h => (lp_zero h).elim
  | succ n ih =>
    intro M x1 o h K
    obtain ⟨o1, hb, h2⟩ := lp_some h
    replace hb : f_X9_back_l39 N   M x1 = some o1 := hb
    clear h
    have Kc : ∀ (Dy : wg_M) (y1 : Int32), o1 = Sum.inl (Dy, y1) → G_X9_back p l e s m args below meth c E ad S r0 C D0 39 C Dy [(0, .ref (ad 55)), (1, .int y1)] [] := fun Dy y1 e1 => by
      subst e1
      exact ih Dy y1 o h2 K
    have Ke : ∀ (Dy : wg_M) (y1 : Int32), o1 = Sum.inr ((Dy, y1)) → G_X9_back p l e s m args below meth c E ad S r0 C D0 108 C Dy [(0, .ref (ad 55)), (1, .int y1)] [] := fun Dy y1 e1 => by
      subst e1
      exact K Dy y1 (sm_inj (α := (wg_M × Int32)) h2).symm
    clear ih K h2
    unfold f_X9_back_l39 at hb
    have h := hb
    clear hb
    refine wg_iload_n X 1 dX9_back_39 rfl rfl ?_
    refine wg_bipush (v := 8) X dX9_back_40 (by decide) ?_
    refine wg_icmp_ge X 108 dX9_back_42 (by decide) (fun c15 => ?_) (fun c15 => ?_)
    · have h := if_t c15 h
      exact Ke M x1 (sm_inj h).symm
    · have h := if_f c15 h
      refine wg_aload_n X 0 dX9_back_45 rfl rfl ?_
      refine wg_getR (b := 61) X cl9 (SMi hS 55 9 rfl) 9 (by decide) dX9_back_46 k_891 rfl (SMr hS 9 61 rfl) ?_
      refine wg_iload_n X 1 dX9_back_49 rfl rfl ?_
      refine wg_aload_n X 0 dX9_back_50 rfl rfl ?_
      refine wg_getR (b := 70) X cl9 (SMi hS 55 9 rfl) 37 (by decide) dX9_back_51 k_919 rfl (SMr hS 37 70 rfl) ?_
      refine wg_iload_n X 1 dX9_back_54 rfl rfl ?_
      obtain ⟨z16, h⟩ := ck_some h
      refine wg_mald X (SMi hS 70 11 rfl) (SMl hS 70 32 rfl) z16 dX9_back_55 ?_
      obtain ⟨z17, h⟩ := ck_some h
      obtain ⟨M18, e19, h⟩ := lt_some h
      refine wg_maste X (SMi hS 61 11 rfl) (SMl hS 61 8 rfl) z17 dX9_back_56 e19 ?_
      refine wg_aload_n X 0 dX9_back_57 rfl rfl ?_
      refine wg_getR (b := 62) X cl9 (SMi hS 55 9 rfl) 10 (by decide) dX9_back_58 k_892 rfl (SMr hS 10 62 rfl) ?_
      refine wg_iload_n X 1 dX9_back_61 rfl rfl ?_
      refine wg_aload_n X 0 dX9_back_62 rfl rfl ?_
      refine wg_getR (b := 70) X cl9 (SMi hS 55 9 rfl) 37 (by decide) dX9_back_63 k_919 rfl (SMr hS 37 70 rfl) ?_
      refine wg_bipush (v := 8) X dX9_back_66 (by decide) ?_
      refine wg_iload_n X 1 dX9_back_68 rfl rfl ?_
      refine wg_iadd X dX9_back_69 ?_
      obtain ⟨z20, h⟩ := ck_some h
      refine wg_mald X (SMi hS 70 11 rfl) (SMl hS 70 32 rfl) z20 dX9_back_70 ?_
      obtain ⟨z21, h⟩ := ck_some h
      obtain ⟨M22, e23, h⟩ := lt_some h
      refine wg_maste X (SMi hS 62 11 rfl) (SMl hS 62 8 rfl) z21 dX9_back_71 e23 ?_
      refine wg_aload_n X 0 dX9_back_72 rfl rfl ?_
      refine wg_getR (b := 63) X cl9 (SMi hS 55 9 rfl) 11 (by decide) dX9_back_73 k_893 rfl (SMr hS 11 63 rfl) ?_
      refine wg_iload_n X 1 dX9_back_76 rfl rfl ?_
      refine wg_aload_n X 0 dX9_back_77 rfl rfl ?_
      refine wg_getR (b := 70) X cl9 (SMi hS 55 9 rfl) 37 (by decide) dX9_back_78 k_919 rfl (SMr hS 37 70 rfl) ?_
      refine wg_bipush (v := 16) X dX9_back_81 (by decide) ?_
      refine wg_iload_n X 1 dX9_back_83 rfl rfl ?_
      refine wg_iadd X dX9_back_84 ?_
      obtain ⟨z24, h⟩ := ck_some h
      refine wg_mald X (SMi hS 70 11 rfl) (SMl hS 70 32 rfl) z24 dX9_back_85 ?_
      obtain ⟨z25, h⟩ := ck_some h
      obtain ⟨M26, e27, h⟩ := lt_some h
      refine wg_maste X (SMi hS 63 11 rfl) (SMl hS 63 8 rfl) z25 dX9_back_86 e27 ?_
      refine wg_aload_n X 0 dX9_back_87 rfl rfl ?_
      refine wg_getR (b := 64) X cl9 (SMi hS 55 9 rfl) 12 (by decide) dX9_back_88 k_894 rfl (SMr hS 12 64 rfl) ?_
      refine wg_iload_n X 1 dX9_back_91 rfl rfl ?_
      refine wg_aload_n X 0 dX9_back_92 rfl rfl ?_
      refine wg_getR (b := 70) X cl9 (SMi hS 55 9 rfl) 37 (by decide) dX9_back_93 k_919 rfl (SMr hS 37 70 rfl) ?_
      refine wg_bipush (v := 24) X dX9_back_96 (by decide) ?_
      refine wg_iload_n X 1 dX9_back_98 rfl rfl ?_
      refine wg_iadd X dX9_back_99 ?_
      obtain ⟨z28, h⟩ := ck_some h
      refine wg_mald X (SMi hS 70 11 rfl) (SMl hS 70 32 rfl) z28 dX9_back_100 ?_
      obtain ⟨z29, h⟩ := ck_some h
      obtain ⟨M30, e31, h⟩ := lt_some h
      refine wg_maste X (SMi hS 64 11 rfl) (SMl hS 64 8 rfl) z29 dX9_back_101 e31 ?_
      obtain ⟨v32, e33, h⟩ := lt_some h
      refine wg_iinc (lv' := [(1, .int v32), (0, .ref (ad 55))]) X 1 dX9_back_102 rfl e33 (by decide) rfl ?_
      refine wg_goto X 39 dX9_back_105 (by decide) ?_
      refine wg_pick [1, 0] (lv' := [(0, .ref (ad 55)), (1, .int v32)]) rfl ?_
      exact Kc M30 v32 (sm_inj h).symm
set_option maxHeartbeats 4000000 in
set_option maxRecDepth 100000 in
theorem c_X9_back (l : Launch) (E : wg_Ev) (ad : Nat → Nat) (S : wg_Sh) (hS : wg_SM S) (N : Nat) (C : wg_C) (M : wg_M)   {r0 : Int32} {D0 : wg_M} (h : f_X9_back N M  = some (r0, D0)) : wg_Ci l yX9_back cX9_back 2 (some .int) 0 0 E ad S C M [.ref (ad 55)] r0 C D0 := by
  refine wg_start (own := RX9) (by decide +kernel) rfl (Nat.le_of_ble_eq_true rfl) ?_
  intro p e s m below meth c X hr hnm
  refine wg_lv (lv' := [(0, .ref (ad 55))]) rfl ?_
  unfold f_X9_back at h
  refine wg_aload_n X 0 dX9_back_0 rfl rfl ?_
  refine wg_getM X cl9 (SMi hS 55 9 rfl) 38 (by decide) dX9_back_1 k_920 rfl ?_
  refine wg_iconst (v := -1) X dX9_back_4 (by decide) ?_
  refine wg_icmp_ne X 11 dX9_back_5 (by decide) (fun c1 => ?_) (fun c1 => ?_)
  · have h := if_f c1 h
    refine wg_iconst (v := 0) X dX9_back_11 (by decide) ?_
    refine wg_istore_n (lv' := [(1, .int (0 : Int32)), (0, .ref (ad 55))]) X dX9_back_12 rfl rfl (by decide) rfl ?_
    obtain ⟨o11, h12, h⟩ := bd2_o h
    refine wg_pick [1, 0] (lv' := [(0, .ref (ad 55)), (1, .int (0 : Int32))]) rfl ?_
    refine L_X9_back_l13 X hr hS r0 D0 C N     N M (0 : Int32) o11 h12 (fun M9 v10 e14 => ?_)
    · subst o11
      replace h := bd2_in h
      refine wg_iconst (v := 0) X dX9_back_37 (by decide) ?_
      refine wg_istore_n (lv' := [(1, .int (0 : Int32)), (0, .ref (ad 55))]) X dX9_back_38 rfl rfl (by decide) rfl ?_
      obtain ⟨o36, h37, h⟩ := bd2_o h
      refine wg_pick [1, 0] (lv' := [(0, .ref (ad 55)), (1, .int (0 : Int32))]) rfl ?_
      refine L_X9_back_l39 X hr hS r0 D0 C N     N M9 (0 : Int32) o36 h37 (fun M34 v35 e39 => ?_)
      · subst o36
        replace h := bd2_in h
        refine wg_aload_n X 0 dX9_back_108 rfl rfl ?_
        refine wg_aload_n X 0 dX9_back_109 rfl rfl ?_
        refine wg_getM X cl9 (SMi hS 55 9 rfl) 38 (by decide) dX9_back_110 k_920 rfl ?_
        obtain ⟨M40, e41, h⟩ := lt_some h
        refine wg_putMe X cl9 (SMi hS 55 9 rfl) 13 (by decide) dX9_back_113 k_895 rfl rfl rfl rfl e41 ?_
        refine wg_aload_n X 0 dX9_back_116 rfl rfl ?_
        refine wg_aload_n X 0 dX9_back_117 rfl rfl ?_
        refine wg_getM X cl9 (SMi hS 55 9 rfl) 39 (by decide) dX9_back_118 k_921 rfl ?_
        obtain ⟨M42, e43, h⟩ := lt_some h
        refine wg_putMe X cl9 (SMi hS 55 9 rfl) 4 (by decide) dX9_back_121 k_886 rfl rfl rfl rfl e43 ?_
        refine wg_aload_n X 0 dX9_back_124 rfl rfl ?_
        refine wg_getM X cl9 (SMi hS 55 9 rfl) 13 (by decide) dX9_back_125 k_895 rfl ?_
        exact wg_iret X ⟨(Prod.mk.inj (sm_inj h)).1, rfl, (Prod.mk.inj (sm_inj h)).2⟩ hr dX9_back_128
  · have h := if_t c1 h
    refine wg_bipush (v := -3) X dX9_back_8 (by decide) ?_
    exact wg_iret X ⟨(Prod.mk.inj (sm_inj h)).1, rfl, (Prod.mk.inj (sm_inj h)).2⟩ hr dX9_back_10
-- WindowsGiveModel.count(I)I (('c', 55), 'i')
def f_X9_count_l64 (N : Nat) (M : wg_M)   (x2 : Int32) (x3 : Int32) : Option ((Int32 × Int32) ⊕ (Int32 × Int32)) :=
  if (32 : Int32) ≤ x3 then (
    some (.inr (x2, x3)))
  else (
    ck (inb x3 32) <|
    lt_ (x2 + (M.1 59 x3.toNatClampNeg)) fun v7 =>
    lt_ (x3 + (1 : Int32)) fun v9 =>
    some (.inl (v7, v9)))
def f_X9_count (N : Nat) (M : wg_M) (p1 : Int32) : Option Int32 :=
  bd (f_X9_in p1.toInt64 (0 : Int64) (4 : Int64)) fun r2 =>
  if r2 = 0 then (
    some (-2 : Int32))
  else (
    if (4 : Int32) ≤ p1 then (
      bd2 (lp (fun o => f_X9_count_l64 N M   o.1 o.2) N ((0 : Int32), (0 : Int32))) fun v11 v12 =>
      some v11)
    else (
      if p1 = 0 then (
        some (M.1 55 13))
      else (
        if p1 = (1 : Int32) then (
          some (M.1 55 3))
        else (
          if p1 = (2 : Int32) then (
            some (M.1 55 6))
          else (
            some (M.1 55 4))))))
abbrev G_X9_count (p : Program) (l : Launch) (e : Env) (s : State) (m : MethodId) (args : Array Value) (below : List Frame) (meth : Method) (c : Code) (E : wg_Ev) (ad : Nat → Nat) (S : wg_Sh) (r0 : Int32) (C0 : wg_C) (M0 : wg_M) (pc : Nat) (C : wg_C) (M : wg_M) (lv : List (Nat × Value)) (st : List Value) : Prop := wg_G p l e (wg_Rm 1 25) s m args below meth c (MQ below (wg_Qi E ad S r0 C0 M0) args s 0 0 (wg_A E)) 4 E ad S 0 0 pc C M lv st
set_option maxHeartbeats 4000000 in
set_option maxRecDepth 100000 in
theorem L_X9_count_l64 {p : Program} {l : Launch} {e : Env} {s : State} {m : MethodId} {args : Array Value} {below : List Frame} {meth : Method} {c : Code} {E : wg_Ev} {ad : Nat → Nat} {S : wg_Sh} (X : wg_X p s m args meth c cX9_count 4 RX9 E) (hr : meth.sig.returnType = (some .int)) (hS : wg_SM S) (r0 : Int32) (C : wg_C) (N : Nat)  (M : wg_M)    : ∀ (n : Nat) (x2 : Int32) (x3 : Int32) (o : (Int32 × Int32)), lp (fun o => f_X9_count_l64 N M   o.1 o.2) n (x2, x3) = some o → (∀ (y2 : Int32) (y3 : Int32), o = (y2, y3) → G_X9_count p l e s m args below meth c E ad S r0 C M 85 C M [(0, .ref (ad 55)), (2, .int y2), (3, .int y3)] []) → G_X9_count p l e s m args below meth c E ad S r0 C M 64 C M [(0, .ref (ad 55)), (2, .int x2), (3, .int x3)] [] := by
  intro n
  induction n with
  | zero => exact fun _ _ o h => (lp_zero h).elim
  | succ n ih =>
    intro x2 x3 o h K
    obtain ⟨o1, hb, h2⟩ := lp_some h
    replace hb : f_X9_count_l64 N M   x2 x3 = some o1 := hb
    clear h
    have Kc : ∀ (y2 : Int32) (y3 : Int32), o1 = Sum.inl (y2, y3) → G_X9_count p l e s m args below meth c E ad S r0 C M 64 C M [(0, .ref (ad 55)), (2, .int y2), (3, .int y3)] [] := fun y2 y3 e1 => by
      subst e1
      exact ih y2 y3 o h2 K
    have Ke : ∀ (y2 : Int32) (y3 : Int32), o1 = Sum.inr ((y2, y3)) → G_X9_count p l e s m args below meth c E ad S r0 C M 85 C M [(0, .ref (ad 55)), (2, .int y2), (3, .int y3)] [] := fun y2 y3 e1 => by
      subst e1
      exact K y2 y3 (sm_inj (α := (Int32 × Int32)) h2).symm
    clear ih K h2
    unfold f_X9_count_l64 at hb
    have h := hb
    clear hb
    refine wg_iload_n X 2 dX9_count_64 rfl rfl ?_
    refine wg_bipush (v := 32) X dX9_count_65 (by decide) ?_
    refine wg_icmp_ge X 85 dX9_count_67 (by decide) (fun c5 => ?_) (fun c5 => ?_)
    · have h := if_t c5 h
      exact Ke x2 x3 (sm_inj h).symm
    · have h := if_f c5 h
      refine wg_iload_n X 1 dX9_count_70 rfl rfl ?_
      refine wg_aload_n X 0 dX9_count_71 rfl rfl ?_
      refine wg_getR (b := 59) X cl9 (SMi hS 55 9 rfl) 7 (by decide) dX9_count_72 k_889 rfl (SMr hS 7 59 rfl) ?_
      refine wg_iload_n X 2 dX9_count_75 rfl rfl ?_
      obtain ⟨z6, h⟩ := ck_some h
      refine wg_mald X (SMi hS 59 11 rfl) (SMl hS 59 32 rfl) z6 dX9_count_76 ?_
      refine wg_iadd X dX9_count_77 ?_
      obtain ⟨v7, e8, h⟩ := lt_some h
      refine wg_istore_n (lv' := [(2, .int v7), (0, .ref (ad 55)), (3, .int x3)]) X dX9_count_78 rfl e8 (by decide) rfl ?_
      obtain ⟨v9, e10, h⟩ := lt_some h
      refine wg_iinc (lv' := [(3, .int v9), (2, .int v7), (0, .ref (ad 55))]) X 2 dX9_count_79 rfl e10 (by decide) rfl ?_
      refine wg_goto X 64 dX9_count_82 (by decide) ?_
      refine wg_pick [2, 1, 0] (lv' := [(0, .ref (ad 55)), (2, .int v7), (3, .int v9)]) rfl ?_
      exact Kc v7 v9 (sm_inj h).symm
set_option maxHeartbeats 4000000 in
set_option maxRecDepth 100000 in
theorem c_X9_count (l : Launch) (E : wg_Ev) (ad : Nat → Nat) (S : wg_Sh) (hS : wg_SM S) (N : Nat) (C : wg_C) (M : wg_M) (p1 : Int32)  {r0 : Int32} (h : f_X9_count N M p1 = some r0) : wg_Ci l yX9_count cX9_count 4 (some .int) 1 25 E ad S C M [.ref (ad 55), .int p1] r0 C M := by
  refine wg_start (own := RX9) (by decide +kernel) rfl (Nat.le_of_ble_eq_true rfl) ?_
  intro p e s m below meth c X hr hnm
  refine wg_lv (lv' := [(0, .ref (ad 55)), (1, .int p1)]) rfl ?_
  unfold f_X9_count at h
  refine wg_iload_n X 1 dX9_count_0 rfl rfl ?_
  refine wg_i2l X dX9_count_1 ?_
  refine wg_lconst (v := 0) X dX9_count_2 (by decide) ?_
  refine wg_ldc2 (v := 4) X dX9_count_3 k_1020 ?_
  obtain ⟨r2, h1, h⟩ := bd_some h
  refine wg_callSi (As := [.long (p1.toInt64), .long (0 : Int64), .long (4 : Int64)]) (rest := []) X (c_X9_in l E ad S C M p1.toInt64 (0 : Int64) (4 : Int64)  h1) T_yX9_in k_1021 dX9_count_6 rfl rfl (Nat.le_of_ble_eq_true rfl) ⟨Nat.le_of_ble_eq_true rfl, Nat.le_of_ble_eq_true rfl⟩ ⟨Nat.zero_le _, Nat.zero_le _⟩ ?_
  refine wg_if_ne X 15 dX9_count_9 (by decide) (fun c3 => ?_) (fun c3 => ?_)
  · have h := if_f c3 h
    refine wg_iload_n X 1 dX9_count_15 rfl rfl ?_
    refine wg_iconst (v := 4) X dX9_count_16 (by decide) ?_
    refine wg_icmp_ge X 60 dX9_count_17 (by decide) (fun c4 => ?_) (fun c4 => ?_)
    · have h := if_t c4 h
      refine wg_iconst (v := 0) X dX9_count_60 (by decide) ?_
      refine wg_istore_n (lv' := [(2, .int (0 : Int32)), (0, .ref (ad 55)), (1, .int p1)]) X dX9_count_61 rfl rfl (by decide) rfl ?_
      refine wg_iconst (v := 0) X dX9_count_62 (by decide) ?_
      refine wg_istore_n (lv' := [(3, .int (0 : Int32)), (2, .int (0 : Int32)), (0, .ref (ad 55)), (1, .int p1)]) X dX9_count_63 rfl rfl (by decide) rfl ?_
      obtain ⟨o13, h14, h⟩ := bd2_o h
      refine wg_pick [2, 1, 0] (lv' := [(0, .ref (ad 55)), (2, .int (0 : Int32)), (3, .int (0 : Int32))]) rfl ?_
      refine L_X9_count_l64 X hr hS r0 C N  M    N (0 : Int32) (0 : Int32) o13 h14 (fun v11 v12 e16 => ?_)
      · subst o13
        replace h := bd2_in h
        refine wg_iload_n X 1 dX9_count_85 rfl rfl ?_
        exact wg_iret X ⟨(sm_inj h), rfl, rfl⟩ hr dX9_count_86
    · have h := if_f c4 h
      refine wg_iload_n X 1 dX9_count_20 rfl rfl ?_
      refine wg_if_ne X 31 dX9_count_21 (by decide) (fun c17 => ?_) (fun c17 => ?_)
      · have h := if_f c17 h
        refine wg_iload_n X 1 dX9_count_31 rfl rfl ?_
        refine wg_iconst (v := 1) X dX9_count_32 (by decide) ?_
        refine wg_icmp_ne X 43 dX9_count_33 (by decide) (fun c18 => ?_) (fun c18 => ?_)
        · have h := if_f c18 h
          refine wg_iload_n X 1 dX9_count_43 rfl rfl ?_
          refine wg_iconst (v := 2) X dX9_count_44 (by decide) ?_
          refine wg_icmp_ne X 55 dX9_count_45 (by decide) (fun c19 => ?_) (fun c19 => ?_)
          · have h := if_f c19 h
            refine wg_aload_n X 0 dX9_count_55 rfl rfl ?_
            refine wg_getM X cl9 (SMi hS 55 9 rfl) 4 (by decide) dX9_count_56 k_886 rfl ?_
            exact wg_iret X ⟨(sm_inj h), rfl, rfl⟩ hr dX9_count_59
          · have h := if_t c19 h
            refine wg_aload_n X 0 dX9_count_48 rfl rfl ?_
            refine wg_getM X cl9 (SMi hS 55 9 rfl) 6 (by decide) dX9_count_49 k_888 rfl ?_
            refine wg_goto X 59 dX9_count_52 (by decide) ?_
            exact wg_iret X ⟨(sm_inj h), rfl, rfl⟩ hr dX9_count_59
        · have h := if_t c18 h
          refine wg_aload_n X 0 dX9_count_36 rfl rfl ?_
          refine wg_getM X cl9 (SMi hS 55 9 rfl) 3 (by decide) dX9_count_37 k_885 rfl ?_
          refine wg_goto X 59 dX9_count_40 (by decide) ?_
          exact wg_iret X ⟨(sm_inj h), rfl, rfl⟩ hr dX9_count_59
      · have h := if_t c17 h
        refine wg_aload_n X 0 dX9_count_24 rfl rfl ?_
        refine wg_getM X cl9 (SMi hS 55 9 rfl) 13 (by decide) dX9_count_25 k_895 rfl ?_
        refine wg_goto X 59 dX9_count_28 (by decide) ?_
        exact wg_iret X ⟨(sm_inj h), rfl, rfl⟩ hr dX9_count_59
  · have h := if_t c3 h
    refine wg_bipush (v := -2) X dX9_count_12 (by decide) ?_
    exact wg_iret X ⟨(sm_inj h), rfl, rfl⟩ hr dX9_count_14
-- WindowsGiveModel.cell(III)I (('c', 55), 'i', 'i', 'i')
def f_X9_cell (M : wg_M) (p1 : Int32) (p2 : Int32) (p3 : Int32) : Option (Int32 × wg_M) :=
  bd (f_X9_isSheet p1) fun r2 =>
  if r2 = 0 then (
    some ((-2 : Int32), M))
  else (
    ck (inb p1 4) <|
    if (M.1 71 p1.toNatClampNeg) = 0 then (
      some ((-11 : Int32), M))
    else (
      ck (inb p1 4) <|
      bd (f_X9_in p2.toInt64 (0 : Int64) (((M.1 73 p1.toNatClampNeg) - (1 : Int32)).toInt64)) fun r8 =>
      if r8 = 0 then (
        some ((-12 : Int32), M))
      else (
        ck (inb p1 4) <|
        if (M.1 72 p1.toNatClampNeg) = 0 then (
          ck (inb (((40 : Int32) * p1) + p2) 160) <|
          lt_ (wg_sM M 74 (((40 : Int32) * p1) + p2).toNatClampNeg p3.toInt8.toInt32) fun M21 =>
          some ((1 : Int32), M21))
        else (
          ck (inb p1 4) <|
          if (M.1 72 p1.toNatClampNeg) = (1 : Int32) then (
            ck (inb (((40 : Int32) * p1) + p2) 160) <|
            lt_ (wg_sM M 74 (((40 : Int32) * p1) + p2).toNatClampNeg p3.toInt16.toInt32) fun M18 =>
            some ((1 : Int32), M18))
          else (
            ck (inb (((40 : Int32) * p1) + p2) 160) <|
            lt_ (wg_sM M 74 (((40 : Int32) * p1) + p2).toNatClampNeg p3) fun M15 =>
            some ((1 : Int32), M15))))))
set_option maxHeartbeats 4000000 in
set_option maxRecDepth 100000 in
theorem c_X9_cell (l : Launch) (E : wg_Ev) (ad : Nat → Nat) (S : wg_Sh) (hS : wg_SM S) (C : wg_C) (M : wg_M) (p1 : Int32) (p2 : Int32) (p3 : Int32)  {r0 : Int32} {D0 : wg_M} (h : f_X9_cell M p1 p2 p3 = some (r0, D0)) : wg_Ci l yX9_cell cX9_cell 4 (some .int) 2 45 E ad S C M [.ref (ad 55), .int p1, .int p2, .int p3] r0 C D0 := by
  refine wg_start (own := RX9) (by decide +kernel) rfl (Nat.le_of_ble_eq_true rfl) ?_
  intro p e s m below meth c X hr hnm
  refine wg_lv (lv' := [(0, .ref (ad 55)), (1, .int p1), (2, .int p2), (3, .int p3)]) rfl ?_
  unfold f_X9_cell at h
  refine wg_iload_n X 1 dX9_cell_0 rfl rfl ?_
  obtain ⟨r2, h1, h⟩ := bd_some h
  refine wg_callSi (As := [.int p1]) (rest := []) X (c_X9_isSheet l E ad S C M p1  h1) T_yX9_isSheet k_1217 dX9_cell_1 rfl rfl (Nat.le_of_ble_eq_true rfl) ⟨Nat.le_of_ble_eq_true rfl, Nat.le_of_ble_eq_true rfl⟩ ⟨Nat.zero_le _, Nat.zero_le _⟩ ?_
  refine wg_if_ne X 10 dX9_cell_4 (by decide) (fun c3 => ?_) (fun c3 => ?_)
  · have h := if_f c3 h
    refine wg_aload_n X 0 dX9_cell_10 rfl rfl ?_
    refine wg_getR (b := 71) X cl9 (SMi hS 55 9 rfl) 40 (by decide) dX9_cell_11 k_922 rfl (SMr hS 40 71 rfl) ?_
    refine wg_iload_n X 1 dX9_cell_14 rfl rfl ?_
    obtain ⟨z4, h⟩ := ck_some h
    refine wg_zald X (SMi hS 71 12 rfl) (SMl hS 71 4 rfl) z4 dX9_cell_15 ?_
    refine wg_if_ne X 22 dX9_cell_16 (by decide) (fun c5 => ?_) (fun c5 => ?_)
    · have h := if_f c5 h
      refine wg_iload_n X 2 dX9_cell_22 rfl rfl ?_
      refine wg_i2l X dX9_cell_23 ?_
      refine wg_lconst (v := 0) X dX9_cell_24 (by decide) ?_
      refine wg_aload_n X 0 dX9_cell_25 rfl rfl ?_
      refine wg_getR (b := 73) X cl9 (SMi hS 55 9 rfl) 42 (by decide) dX9_cell_26 k_924 rfl (SMr hS 42 73 rfl) ?_
      refine wg_iload_n X 1 dX9_cell_29 rfl rfl ?_
      obtain ⟨z6, h⟩ := ck_some h
      refine wg_mald X (SMi hS 73 11 rfl) (SMl hS 73 4 rfl) z6 dX9_cell_30 ?_
      refine wg_iconst (v := 1) X dX9_cell_31 (by decide) ?_
      refine wg_isub X dX9_cell_32 ?_
      refine wg_i2l X dX9_cell_33 ?_
      obtain ⟨r8, h7, h⟩ := bd_some h
      refine wg_callSi (As := [.long (p2.toInt64), .long (0 : Int64), .long (((M.1 73 p1.toNatClampNeg) - (1 : Int32)).toInt64)]) (rest := []) X (c_X9_in l E ad S C M p2.toInt64 (0 : Int64) (((M.1 73 p1.toNatClampNeg) - (1 : Int32)).toInt64)  h7) T_yX9_in k_1021 dX9_cell_34 rfl rfl (Nat.le_of_ble_eq_true rfl) ⟨Nat.le_of_ble_eq_true rfl, Nat.le_of_ble_eq_true rfl⟩ ⟨Nat.zero_le _, Nat.zero_le _⟩ ?_
      refine wg_if_ne X 43 dX9_cell_37 (by decide) (fun c9 => ?_) (fun c9 => ?_)
      · have h := if_f c9 h
        refine wg_aload_n X 0 dX9_cell_43 rfl rfl ?_
        refine wg_getR (b := 74) X cl9 (SMi hS 55 9 rfl) 43 (by decide) dX9_cell_44 k_925 rfl (SMr hS 43 74 rfl) ?_
        refine wg_bipush (v := 40) X dX9_cell_47 (by decide) ?_
        refine wg_iload_n X 1 dX9_cell_49 rfl rfl ?_
        refine wg_imul X dX9_cell_50 ?_
        refine wg_iload_n X 2 dX9_cell_51 rfl rfl ?_
        refine wg_iadd X dX9_cell_52 ?_
        refine wg_aload_n X 0 dX9_cell_53 rfl rfl ?_
        refine wg_getR (b := 72) X cl9 (SMi hS 55 9 rfl) 41 (by decide) dX9_cell_54 k_923 rfl (SMr hS 41 72 rfl) ?_
        refine wg_iload_n X 1 dX9_cell_57 rfl rfl ?_
        obtain ⟨z10, h⟩ := ck_some h
        refine wg_mald X (SMi hS 72 11 rfl) (SMl hS 72 4 rfl) z10 dX9_cell_58 ?_
        refine wg_if_ne X 67 dX9_cell_59 (by decide) (fun c11 => ?_) (fun c11 => ?_)
        · have h := if_f c11 h
          refine wg_aload_n X 0 dX9_cell_67 rfl rfl ?_
          refine wg_getR (b := 72) X cl9 (SMi hS 55 9 rfl) 41 (by decide) dX9_cell_68 k_923 rfl (SMr hS 41 72 rfl) ?_
          refine wg_iload_n X 1 dX9_cell_71 rfl rfl ?_
          obtain ⟨z12, h⟩ := ck_some h
          refine wg_mald X (SMi hS 72 11 rfl) (SMl hS 72 4 rfl) z12 dX9_cell_72 ?_
          refine wg_iconst (v := 1) X dX9_cell_73 (by decide) ?_
          refine wg_icmp_ne X 82 dX9_cell_74 (by decide) (fun c13 => ?_) (fun c13 => ?_)
          · have h := if_f c13 h
            refine wg_iload_n X 3 dX9_cell_82 rfl rfl ?_
            obtain ⟨z14, h⟩ := ck_some h
            obtain ⟨M15, e16, h⟩ := lt_some h
            refine wg_maste X (SMi hS 74 11 rfl) (SMl hS 74 160 rfl) z14 dX9_cell_83 e16 ?_
            refine wg_iconst (v := 1) X dX9_cell_84 (by decide) ?_
            exact wg_iret X ⟨(Prod.mk.inj (sm_inj h)).1, rfl, (Prod.mk.inj (sm_inj h)).2⟩ hr dX9_cell_85
          · have h := if_t c13 h
            refine wg_iload_n X 3 dX9_cell_77 rfl rfl ?_
            refine wg_i2s X dX9_cell_78 ?_
            refine wg_goto X 83 dX9_cell_79 (by decide) ?_
            obtain ⟨z17, h⟩ := ck_some h
            obtain ⟨M18, e19, h⟩ := lt_some h
            refine wg_maste X (SMi hS 74 11 rfl) (SMl hS 74 160 rfl) z17 dX9_cell_83 e19 ?_
            refine wg_iconst (v := 1) X dX9_cell_84 (by decide) ?_
            exact wg_iret X ⟨(Prod.mk.inj (sm_inj h)).1, rfl, (Prod.mk.inj (sm_inj h)).2⟩ hr dX9_cell_85
        · have h := if_t c11 h
          refine wg_iload_n X 3 dX9_cell_62 rfl rfl ?_
          refine wg_i2b X dX9_cell_63 ?_
          refine wg_goto X 83 dX9_cell_64 (by decide) ?_
          obtain ⟨z20, h⟩ := ck_some h
          obtain ⟨M21, e22, h⟩ := lt_some h
          refine wg_maste X (SMi hS 74 11 rfl) (SMl hS 74 160 rfl) z20 dX9_cell_83 e22 ?_
          refine wg_iconst (v := 1) X dX9_cell_84 (by decide) ?_
          exact wg_iret X ⟨(Prod.mk.inj (sm_inj h)).1, rfl, (Prod.mk.inj (sm_inj h)).2⟩ hr dX9_cell_85
      · have h := if_t c9 h
        refine wg_bipush (v := -12) X dX9_cell_40 (by decide) ?_
        exact wg_iret X ⟨(Prod.mk.inj (sm_inj h)).1, rfl, (Prod.mk.inj (sm_inj h)).2⟩ hr dX9_cell_42
    · have h := if_t c5 h
      refine wg_bipush (v := -11) X dX9_cell_19 (by decide) ?_
      exact wg_iret X ⟨(Prod.mk.inj (sm_inj h)).1, rfl, (Prod.mk.inj (sm_inj h)).2⟩ hr dX9_cell_21
  · have h := if_t c3 h
    refine wg_bipush (v := -2) X dX9_cell_7 (by decide) ?_
    exact wg_iret X ⟨(Prod.mk.inj (sm_inj h)).1, rfl, (Prod.mk.inj (sm_inj h)).2⟩ hr dX9_cell_9
-- WindowsGiveModel.copy(IIIII)I (('c', 55), 'i', 'i', 'i', 'i', 'i')
def f_X9_copy_j145l121 (N : Nat) (M : wg_M)  (x1 : Int32) (x2 : Int32) (x3 : Int32) (x4 : Int32) (x5 : Int32) (x6 : Int32) (x7 : Int32) (s0 : Int32) : Option ((wg_M × Int32) ⊕ (wg_M × Int32)) :=
  ck (inb ((((40 : Int32) * x1) + x2) + s0) 160) <|
  ck (inb ((((40 : Int32) * x3) + x4) + s0) 160) <|
  lt_ (wg_sM M 74 ((((40 : Int32) * x3) + x4) + s0).toNatClampNeg (M.1 74 ((((40 : Int32) * x1) + x2) + s0).toNatClampNeg)) fun M26 =>
  lt_ (x7 + (1 : Int32)) fun v28 =>
  some (.inl (M26, v28))
def f_X9_copy_l121 (N : Nat)  (x1 : Int32) (x2 : Int32) (x3 : Int32) (x4 : Int32) (x5 : Int32) (x6 : Int32) (M : wg_M) (x7 : Int32) : Option ((wg_M × Int32) ⊕ (wg_M × Int32)) :=
  if x5 ≤ x7 then (
    some (.inr (M, x7)))
  else (
    if x6 = 0 then (
      f_X9_copy_j145l121 N M  x1 x2 x3 x4 x5 x6 x7 x7)
    else (
      f_X9_copy_j145l121 N M  x1 x2 x3 x4 x5 x6 x7 ((x5 - (1 : Int32)) - x7)))
def f_X9_copy_j116 (N : Nat) (M : wg_M)  (x1 : Int32) (x2 : Int32) (x3 : Int32) (x4 : Int32) (x5 : Int32) (s0 : Int32) : Option (Int32 × wg_M) :=
  bd2 (lp (fun o => f_X9_copy_l121 N  x1 x2 x3 x4 x5 s0 o.1 o.2) N (M, (0 : Int32))) fun M30 v31 =>
  some (x5, M30)
def f_X9_copy (N : Nat) (M : wg_M) (p1 : Int32) (p2 : Int32) (p3 : Int32) (p4 : Int32) (p5 : Int32) : Option (Int32 × wg_M) :=
  bd (f_X9_isSheet p1) fun r2 =>
  if r2 = 0 then (
    some ((-2 : Int32), M))
  else (
    bd (f_X9_isSheet p3) fun r5 =>
    if r5 = 0 then (
      some ((-2 : Int32), M))
    else (
      ck (inb p1 4) <|
      if (M.1 71 p1.toNatClampNeg) = 0 then (
        some ((-11 : Int32), M))
      else (
        ck (inb p3 4) <|
        if (M.1 71 p3.toNatClampNeg) = 0 then (
          some ((-11 : Int32), M))
        else (
          ck (inb p1 4) <|
          ck (inb p3 4) <|
          if (M.1 72 p1.toNatClampNeg) = (M.1 72 p3.toNatClampNeg) then (
            if p5 < 0 then (
              some ((-12 : Int32), M))
            else (
              if p2 < 0 then (
                some ((-12 : Int32), M))
              else (
                if p4 < 0 then (
                  some ((-12 : Int32), M))
                else (
                  ck (inb p1 4) <|
                  if ((M.1 73 p1.toNatClampNeg) - p5) < p2 then (
                    some ((-12 : Int32), M))
                  else (
                    ck (inb p3 4) <|
                    if p4 ≤ ((M.1 73 p3.toNatClampNeg) - p5) then (
                      if p1 = p3 then (
                        if p4 ≤ p2 then (
                          f_X9_copy_j116 N M  p1 p2 p3 p4 p5 (0 : Int32))
                        else (
                          f_X9_copy_j116 N M  p1 p2 p3 p4 p5 (1 : Int32)))
                      else (
                        f_X9_copy_j116 N M  p1 p2 p3 p4 p5 (0 : Int32)))
                    else (
                      some ((-12 : Int32), M)))))))
          else (
            some ((-13 : Int32), M))))))
abbrev G_X9_copy (p : Program) (l : Launch) (e : Env) (s : State) (m : MethodId) (args : Array Value) (below : List Frame) (meth : Method) (c : Code) (E : wg_Ev) (ad : Nat → Nat) (S : wg_Sh) (r0 : Int32) (C0 : wg_C) (M0 : wg_M) (pc : Nat) (C : wg_C) (M : wg_M) (lv : List (Nat × Value)) (st : List Value) : Prop := wg_G p l e (wg_Rm 2 45) s m args below meth c (MQ below (wg_Qi E ad S r0 C0 M0) args s 0 0 (wg_A E)) 9 E ad S 0 0 pc C M lv st
set_option maxHeartbeats 4000000 in
set_option maxRecDepth 100000 in
theorem J_X9_copy_j145l121 {p : Program} {l : Launch} {e : Env} {s : State} {m : MethodId} {args : Array Value} {below : List Frame} {meth : Method} {c : Code} {E : wg_Ev} {ad : Nat → Nat} {S : wg_Sh} (X : wg_X p s m args meth c cX9_copy 9 RX9 E) (hr : meth.sig.returnType = (some .int)) (hS : wg_SM S) (r0 : Int32) (D0 : wg_M) (C : wg_C) (N : Nat)  (M : wg_M)  (x1 : Int32) (x2 : Int32) (x3 : Int32) (x4 : Int32) (x5 : Int32) (x6 : Int32) (x7 : Int32) (s0 : Int32)  (y : ((wg_M × Int32) ⊕ (wg_M × Int32))) (Kc : ∀ (Dy : wg_M) (y7 : Int32), y = Sum.inl (Dy, y7) → G_X9_copy p l e s m args below meth c E ad S r0 C D0 121 C Dy [(0, .ref (ad 55)), (1, .int x1), (2, .int x2), (3, .int x3), (4, .int x4), (5, .int x5), (6, .int x6), (7, .int y7)] []) (Ke : ∀ (Dy : wg_M) (y7 : Int32), y = Sum.inr ((Dy, y7)) → G_X9_copy p l e s m args below meth c E ad S r0 C D0 182 C Dy [(0, .ref (ad 55)), (1, .int x1), (2, .int x2), (3, .int x3), (4, .int x4), (5, .int x5), (6, .int x6), (7, .int y7)] []) (h : f_X9_copy_j145l121 N M  x1 x2 x3 x4 x5 x6 x7 s0 = some y) : G_X9_copy p l e s m args below meth c E ad S r0 C D0 145 C M [(0, .ref (ad 55)), (1, .int x1), (2, .int x2), (3, .int x3), (4, .int x4), (5, .int x5), (6, .int x6), (7, .int x7)] [.int s0] := by
  unfold f_X9_copy_j145l121 at h
  refine wg_istore (lv' := [(8, .int s0), (0, .ref (ad 55)), (1, .int x1), (2, .int x2), (3, .int x3), (4, .int x4), (5, .int x5), (6, .int x6), (7, .int x7)]) X dX9_copy_145 rfl (by decide) rfl ?_
  refine wg_aload_n X 1 dX9_copy_147 rfl rfl ?_
  refine wg_getR (b := 74) X cl9 (SMi hS 55 9 rfl) 43 (by decide) dX9_copy_148 k_925 rfl (SMr hS 43 74 rfl) ?_
  refine wg_bipush (v := 40) X dX9_copy_151 (by decide) ?_
  refine wg_iload_n X 4 dX9_copy_153 rfl rfl ?_
  refine wg_imul X dX9_copy_154 ?_
  refine wg_iload X 5 dX9_copy_155 rfl ?_
  refine wg_iadd X dX9_copy_157 ?_
  refine wg_iload X 0 dX9_copy_158 rfl ?_
  refine wg_iadd X dX9_copy_160 ?_
  refine wg_aload_n X 1 dX9_copy_161 rfl rfl ?_
  refine wg_getR (b := 74) X cl9 (SMi hS 55 9 rfl) 43 (by decide) dX9_copy_162 k_925 rfl (SMr hS 43 74 rfl) ?_
  refine wg_bipush (v := 40) X dX9_copy_165 (by decide) ?_
  refine wg_iload_n X 2 dX9_copy_167 rfl rfl ?_
  refine wg_imul X dX9_copy_168 ?_
  refine wg_iload_n X 3 dX9_copy_169 rfl rfl ?_
  refine wg_iadd X dX9_copy_170 ?_
  refine wg_iload X 0 dX9_copy_171 rfl ?_
  refine wg_iadd X dX9_copy_173 ?_
  obtain ⟨z24, h⟩ := ck_some h
  refine wg_mald X (SMi hS 74 11 rfl) (SMl hS 74 160 rfl) z24 dX9_copy_174 ?_
  obtain ⟨z25, h⟩ := ck_some h
  obtain ⟨M26, e27, h⟩ := lt_some h
  refine wg_maste X (SMi hS 74 11 rfl) (SMl hS 74 160 rfl) z25 dX9_copy_175 e27 ?_
  obtain ⟨v28, e29, h⟩ := lt_some h
  refine wg_iinc (lv' := [(7, .int v28), (8, .int s0), (0, .ref (ad 55)), (1, .int x1), (2, .int x2), (3, .int x3), (4, .int x4), (5, .int x5), (6, .int x6)]) X 8 dX9_copy_176 rfl e29 (by decide) rfl ?_
  refine wg_goto X 121 dX9_copy_179 (by decide) ?_
  refine wg_pick [2, 3, 4, 5, 6, 7, 8, 0] (lv' := [(0, .ref (ad 55)), (1, .int x1), (2, .int x2), (3, .int x3), (4, .int x4), (5, .int x5), (6, .int x6), (7, .int v28)]) rfl ?_
  exact Kc M26 v28 (sm_inj h).symm
set_option maxHeartbeats 4000000 in
set_option maxRecDepth 100000 in
theorem L_X9_copy_l121 {p : Program} {l : Launch} {e : Env} {s : State} {m : MethodId} {args : Array Value} {below : List Frame} {meth : Method} {c : Code} {E : wg_Ev} {ad : Nat → Nat} {S : wg_Sh} (X : wg_X p s m args meth c cX9_copy 9 RX9 E) (hr : meth.sig.returnType = (some .int)) (hS : wg_SM S) (r0 : Int32) (D0 : wg_M) (C : wg_C) (N : Nat)   (x1 : Int32) (x2 : Int32) (x3 : Int32) (x4 : Int32) (x5 : Int32) (x6 : Int32)  : ∀ (n : Nat) (M : wg_M) (x7 : Int32) (o : (wg_M × Int32)), lp (fun o => f_X9_copy_l121 N  x1 x2 x3 x4 x5 x6 o.1 o.2) n (M, x7) = some o → (∀ (Dy : wg_M) (y7 : Int32), o = (Dy, y7) → G_X9_copy p l e s m args below meth c E ad S r0 C D0 182 C Dy [(0, .ref (ad 55)), (1, .int x1), (2, .int x2), (3, .int x3), (4, .int x4), (5, .int x5), (6, .int x6), (7, .int y7)] []) → G_X9_copy p l e s m args below meth c E ad S r0 C D0 121 C M [(0, .ref (ad 55)), (1, .int x1), (2, .int x2), (3, .int x3), (4, .int x4), (5, .int x5), (6, .int x6), (7, .int x7)] [] := by
  intro n
  induction n with
  | zero => exact fun _ _ o h => (lp_zero h).elim
  | succ n ih =>
    intro M x7 o h K
    obtain ⟨o1, hb, h2⟩ := lp_some h
    replace hb : f_X9_copy_l121 N  x1 x2 x3 x4 x5 x6 M x7 = some o1 := hb
    clear h
    have Kc : ∀ (Dy : wg_M) (y7 : Int32), o1 = Sum.inl (Dy, y7) → G_X9_copy p l e s m args below meth c E ad S r0 C D0 121 C Dy [(0, .ref (ad 55)), (1, .int x1), (2, .int x2), (3, .int x3), (4, .int x4), (5, .int x5), (6, .int x6), (7, .int y7)] [] := fun Dy y7 e1 => by
      subst e1
      exact ih Dy y7 o h2 K
    have Ke : ∀ (Dy : wg_M) (y7 : Int32), o1 = Sum.inr ((Dy, y7)) → G_X9_copy p l e s m args below meth c E ad S r0 C D0 182 C Dy [(0, .ref (ad 55)), (1, .int x1), (2, .int x2), (3, .int x3), (4, .int x4), (5, .int x5), (6, .int x6), (7, .int y7)] [] := fun Dy y7 e1 => by
      subst e1
      exact K Dy y7 (sm_inj (α := (wg_M × Int32)) h2).symm
    clear ih K h2
    unfold f_X9_copy_l121 at hb
    have h := hb
    clear hb
    refine wg_iload X 7 dX9_copy_121 rfl ?_
    refine wg_iload X 5 dX9_copy_123 rfl ?_
    refine wg_icmp_ge X 182 dX9_copy_125 (by decide) (fun c22 => ?_) (fun c22 => ?_)
    · have h := if_t c22 h
      exact Ke M x7 (sm_inj h).symm
    · have h := if_f c22 h
      refine wg_iload X 6 dX9_copy_128 rfl ?_
      refine wg_if_eq X 143 dX9_copy_130 (by decide) (fun c23 => ?_) (fun c23 => ?_)
      · have h := if_t c23 h
        refine wg_iload X 7 dX9_copy_143 rfl ?_
        exact J_X9_copy_j145l121 X hr hS r0 D0 C N  M  x1 x2 x3 x4 x5 x6 x7 x7  _ Kc Ke h
      · have h := if_f c23 h
        refine wg_iload X 5 dX9_copy_133 rfl ?_
        refine wg_iconst (v := 1) X dX9_copy_135 (by decide) ?_
        refine wg_isub X dX9_copy_136 ?_
        refine wg_iload X 7 dX9_copy_137 rfl ?_
        refine wg_isub X dX9_copy_139 ?_
        refine wg_goto X 145 dX9_copy_140 (by decide) ?_
        exact J_X9_copy_j145l121 X hr hS r0 D0 C N  M  x1 x2 x3 x4 x5 x6 x7 ((x5 - (1 : Int32)) - x7)  _ Kc Ke h
set_option maxHeartbeats 4000000 in
set_option maxRecDepth 100000 in
theorem J_X9_copy_j116 {p : Program} {l : Launch} {e : Env} {s : State} {m : MethodId} {args : Array Value} {below : List Frame} {meth : Method} {c : Code} {E : wg_Ev} {ad : Nat → Nat} {S : wg_Sh} (X : wg_X p s m args meth c cX9_copy 9 RX9 E) (hr : meth.sig.returnType = (some .int)) (hS : wg_SM S) (r0 : Int32) (D0 : wg_M) (C : wg_C) (N : Nat)  (M : wg_M)  (x1 : Int32) (x2 : Int32) (x3 : Int32) (x4 : Int32) (x5 : Int32) (s0 : Int32)   (h : f_X9_copy_j116 N M  x1 x2 x3 x4 x5 s0 = some (r0, D0)) : G_X9_copy p l e s m args below meth c E ad S r0 C D0 116 C M [(0, .ref (ad 55)), (1, .int x1), (2, .int x2), (3, .int x3), (4, .int x4), (5, .int x5)] [.int s0] := by
  unfold f_X9_copy_j116 at h
  refine wg_istore (lv' := [(6, .int s0), (0, .ref (ad 55)), (1, .int x1), (2, .int x2), (3, .int x3), (4, .int x4), (5, .int x5)]) X dX9_copy_116 rfl (by decide) rfl ?_
  refine wg_iconst (v := 0) X dX9_copy_118 (by decide) ?_
  refine wg_istore (lv' := [(7, .int (0 : Int32)), (6, .int s0), (0, .ref (ad 55)), (1, .int x1), (2, .int x2), (3, .int x3), (4, .int x4), (5, .int x5)]) X dX9_copy_119 rfl (by decide) rfl ?_
  obtain ⟨o32, h33, h⟩ := bd2_o h
  refine wg_pick [2, 3, 4, 5, 6, 7, 1, 0] (lv' := [(0, .ref (ad 55)), (1, .int x1), (2, .int x2), (3, .int x3), (4, .int x4), (5, .int x5), (6, .int s0), (7, .int (0 : Int32))]) rfl ?_
  refine L_X9_copy_l121 X hr hS r0 D0 C N   x1 x2 x3 x4 x5 s0  N M (0 : Int32) o32 h33 (fun M30 v31 e35 => ?_)
  · subst o32
    replace h := bd2_in h
    refine wg_iload X 5 dX9_copy_182 rfl ?_
    exact wg_iret X ⟨(Prod.mk.inj (sm_inj h)).1, rfl, (Prod.mk.inj (sm_inj h)).2⟩ hr dX9_copy_184
set_option maxHeartbeats 4000000 in
set_option maxRecDepth 100000 in
theorem c_X9_copy (l : Launch) (E : wg_Ev) (ad : Nat → Nat) (S : wg_Sh) (hS : wg_SM S) (N : Nat) (C : wg_C) (M : wg_M) (p1 : Int32) (p2 : Int32) (p3 : Int32) (p4 : Int32) (p5 : Int32)  {r0 : Int32} {D0 : wg_M} (h : f_X9_copy N M p1 p2 p3 p4 p5 = some (r0, D0)) : wg_Ci l yX9_copy cX9_copy 9 (some .int) 2 45 E ad S C M [.ref (ad 55), .int p1, .int p2, .int p3, .int p4, .int p5] r0 C D0 := by
  refine wg_start (own := RX9) (by decide +kernel) rfl (Nat.le_of_ble_eq_true rfl) ?_
  intro p e s m below meth c X hr hnm
  refine wg_lv (lv' := [(0, .ref (ad 55)), (1, .int p1), (2, .int p2), (3, .int p3), (4, .int p4), (5, .int p5)]) rfl ?_
  unfold f_X9_copy at h
  refine wg_iload_n X 1 dX9_copy_0 rfl rfl ?_
  obtain ⟨r2, h1, h⟩ := bd_some h
  refine wg_callSi (As := [.int p1]) (rest := []) X (c_X9_isSheet l E ad S C M p1  h1) T_yX9_isSheet k_1217 dX9_copy_1 rfl rfl (Nat.le_of_ble_eq_true rfl) ⟨Nat.le_of_ble_eq_true rfl, Nat.le_of_ble_eq_true rfl⟩ ⟨Nat.zero_le _, Nat.zero_le _⟩ ?_
  refine wg_if_eq X 14 dX9_copy_4 (by decide) (fun c3 => ?_) (fun c3 => ?_)
  · have h := if_t c3 h
    refine wg_bipush (v := -2) X dX9_copy_14 (by decide) ?_
    exact wg_iret X ⟨(Prod.mk.inj (sm_inj h)).1, rfl, (Prod.mk.inj (sm_inj h)).2⟩ hr dX9_copy_16
  · have h := if_f c3 h
    refine wg_iload_n X 3 dX9_copy_7 rfl rfl ?_
    obtain ⟨r5, h4, h⟩ := bd_some h
    refine wg_callSi (As := [.int p3]) (rest := []) X (c_X9_isSheet l E ad S C M p3  h4) T_yX9_isSheet k_1217 dX9_copy_8 rfl rfl (Nat.le_of_ble_eq_true rfl) ⟨Nat.le_of_ble_eq_true rfl, Nat.le_of_ble_eq_true rfl⟩ ⟨Nat.zero_le _, Nat.zero_le _⟩ ?_
    refine wg_if_ne X 17 dX9_copy_11 (by decide) (fun c6 => ?_) (fun c6 => ?_)
    · have h := if_f c6 h
      refine wg_aload_n X 0 dX9_copy_17 rfl rfl ?_
      refine wg_getR (b := 71) X cl9 (SMi hS 55 9 rfl) 40 (by decide) dX9_copy_18 k_922 rfl (SMr hS 40 71 rfl) ?_
      refine wg_iload_n X 1 dX9_copy_21 rfl rfl ?_
      obtain ⟨z7, h⟩ := ck_some h
      refine wg_zald X (SMi hS 71 12 rfl) (SMl hS 71 4 rfl) z7 dX9_copy_22 ?_
      refine wg_if_eq X 35 dX9_copy_23 (by decide) (fun c8 => ?_) (fun c8 => ?_)
      · have h := if_t c8 h
        refine wg_bipush (v := -11) X dX9_copy_35 (by decide) ?_
        exact wg_iret X ⟨(Prod.mk.inj (sm_inj h)).1, rfl, (Prod.mk.inj (sm_inj h)).2⟩ hr dX9_copy_37
      · have h := if_f c8 h
        refine wg_aload_n X 0 dX9_copy_26 rfl rfl ?_
        refine wg_getR (b := 71) X cl9 (SMi hS 55 9 rfl) 40 (by decide) dX9_copy_27 k_922 rfl (SMr hS 40 71 rfl) ?_
        refine wg_iload_n X 3 dX9_copy_30 rfl rfl ?_
        obtain ⟨z9, h⟩ := ck_some h
        refine wg_zald X (SMi hS 71 12 rfl) (SMl hS 71 4 rfl) z9 dX9_copy_31 ?_
        refine wg_if_ne X 38 dX9_copy_32 (by decide) (fun c10 => ?_) (fun c10 => ?_)
        · have h := if_f c10 h
          refine wg_aload_n X 0 dX9_copy_38 rfl rfl ?_
          refine wg_getR (b := 72) X cl9 (SMi hS 55 9 rfl) 41 (by decide) dX9_copy_39 k_923 rfl (SMr hS 41 72 rfl) ?_
          refine wg_iload_n X 1 dX9_copy_42 rfl rfl ?_
          obtain ⟨z11, h⟩ := ck_some h
          refine wg_mald X (SMi hS 72 11 rfl) (SMl hS 72 4 rfl) z11 dX9_copy_43 ?_
          refine wg_aload_n X 0 dX9_copy_44 rfl rfl ?_
          refine wg_getR (b := 72) X cl9 (SMi hS 55 9 rfl) 41 (by decide) dX9_copy_45 k_923 rfl (SMr hS 41 72 rfl) ?_
          refine wg_iload_n X 3 dX9_copy_48 rfl rfl ?_
          obtain ⟨z12, h⟩ := ck_some h
          refine wg_mald X (SMi hS 72 11 rfl) (SMl hS 72 4 rfl) z12 dX9_copy_49 ?_
          refine wg_icmp_eq X 56 dX9_copy_50 (by decide) (fun c13 => ?_) (fun c13 => ?_)
          · have h := if_t c13 h
            refine wg_iload X 5 dX9_copy_56 rfl ?_
            refine wg_if_lt X 97 dX9_copy_58 (by decide) (fun c14 => ?_) (fun c14 => ?_)
            · have h := if_t c14 h
              refine wg_bipush (v := -12) X dX9_copy_97 (by decide) ?_
              exact wg_iret X ⟨(Prod.mk.inj (sm_inj h)).1, rfl, (Prod.mk.inj (sm_inj h)).2⟩ hr dX9_copy_99
            · have h := if_f c14 h
              refine wg_iload_n X 2 dX9_copy_61 rfl rfl ?_
              refine wg_if_lt X 97 dX9_copy_62 (by decide) (fun c15 => ?_) (fun c15 => ?_)
              · have h := if_t c15 h
                refine wg_bipush (v := -12) X dX9_copy_97 (by decide) ?_
                exact wg_iret X ⟨(Prod.mk.inj (sm_inj h)).1, rfl, (Prod.mk.inj (sm_inj h)).2⟩ hr dX9_copy_99
              · have h := if_f c15 h
                refine wg_iload X 4 dX9_copy_65 rfl ?_
                refine wg_if_lt X 97 dX9_copy_67 (by decide) (fun c16 => ?_) (fun c16 => ?_)
                · have h := if_t c16 h
                  refine wg_bipush (v := -12) X dX9_copy_97 (by decide) ?_
                  exact wg_iret X ⟨(Prod.mk.inj (sm_inj h)).1, rfl, (Prod.mk.inj (sm_inj h)).2⟩ hr dX9_copy_99
                · have h := if_f c16 h
                  refine wg_iload_n X 2 dX9_copy_70 rfl rfl ?_
                  refine wg_aload_n X 0 dX9_copy_71 rfl rfl ?_
                  refine wg_getR (b := 73) X cl9 (SMi hS 55 9 rfl) 42 (by decide) dX9_copy_72 k_924 rfl (SMr hS 42 73 rfl) ?_
                  refine wg_iload_n X 1 dX9_copy_75 rfl rfl ?_
                  obtain ⟨z17, h⟩ := ck_some h
                  refine wg_mald X (SMi hS 73 11 rfl) (SMl hS 73 4 rfl) z17 dX9_copy_76 ?_
                  refine wg_iload X 5 dX9_copy_77 rfl ?_
                  refine wg_isub X dX9_copy_79 ?_
                  refine wg_icmp_gt X 97 dX9_copy_80 (by decide) (fun c18 => ?_) (fun c18 => ?_)
                  · have h := if_t c18 h
                    refine wg_bipush (v := -12) X dX9_copy_97 (by decide) ?_
                    exact wg_iret X ⟨(Prod.mk.inj (sm_inj h)).1, rfl, (Prod.mk.inj (sm_inj h)).2⟩ hr dX9_copy_99
                  · have h := if_f c18 h
                    refine wg_iload X 4 dX9_copy_83 rfl ?_
                    refine wg_aload_n X 0 dX9_copy_85 rfl rfl ?_
                    refine wg_getR (b := 73) X cl9 (SMi hS 55 9 rfl) 42 (by decide) dX9_copy_86 k_924 rfl (SMr hS 42 73 rfl) ?_
                    refine wg_iload_n X 3 dX9_copy_89 rfl rfl ?_
                    obtain ⟨z19, h⟩ := ck_some h
                    refine wg_mald X (SMi hS 73 11 rfl) (SMl hS 73 4 rfl) z19 dX9_copy_90 ?_
                    refine wg_iload X 5 dX9_copy_91 rfl ?_
                    refine wg_isub X dX9_copy_93 ?_
                    refine wg_icmp_le X 100 dX9_copy_94 (by decide) (fun c20 => ?_) (fun c20 => ?_)
                    · have h := if_t c20 h
                      refine wg_iload_n X 1 dX9_copy_100 rfl rfl ?_
                      refine wg_iload_n X 3 dX9_copy_101 rfl rfl ?_
                      refine wg_icmp_ne X 115 dX9_copy_102 (by decide) (fun c21 => ?_) (fun c21 => ?_)
                      · have h := if_f c21 h
                        refine wg_iconst (v := 0) X dX9_copy_115 (by decide) ?_
                        exact J_X9_copy_j116 X hr hS r0 D0 C N  M  p1 p2 p3 p4 p5 (0 : Int32)   h
                      · have h := if_t c21 h
                        refine wg_iload_n X 2 dX9_copy_105 rfl rfl ?_
                        refine wg_iload X 4 dX9_copy_106 rfl ?_
                        refine wg_icmp_ge X 115 dX9_copy_108 (by decide) (fun c36 => ?_) (fun c36 => ?_)
                        · have h := if_t c36 h
                          refine wg_iconst (v := 0) X dX9_copy_115 (by decide) ?_
                          exact J_X9_copy_j116 X hr hS r0 D0 C N  M  p1 p2 p3 p4 p5 (0 : Int32)   h
                        · have h := if_f c36 h
                          refine wg_iconst (v := 1) X dX9_copy_111 (by decide) ?_
                          refine wg_goto X 116 dX9_copy_112 (by decide) ?_
                          exact J_X9_copy_j116 X hr hS r0 D0 C N  M  p1 p2 p3 p4 p5 (1 : Int32)   h
                    · have h := if_f c20 h
                      refine wg_bipush (v := -12) X dX9_copy_97 (by decide) ?_
                      exact wg_iret X ⟨(Prod.mk.inj (sm_inj h)).1, rfl, (Prod.mk.inj (sm_inj h)).2⟩ hr dX9_copy_99
          · have h := if_f c13 h
            refine wg_bipush (v := -13) X dX9_copy_53 (by decide) ?_
            exact wg_iret X ⟨(Prod.mk.inj (sm_inj h)).1, rfl, (Prod.mk.inj (sm_inj h)).2⟩ hr dX9_copy_55
        · have h := if_t c10 h
          refine wg_bipush (v := -11) X dX9_copy_35 (by decide) ?_
          exact wg_iret X ⟨(Prod.mk.inj (sm_inj h)).1, rfl, (Prod.mk.inj (sm_inj h)).2⟩ hr dX9_copy_37
    · have h := if_t c6 h
      refine wg_bipush (v := -2) X dX9_copy_14 (by decide) ?_
      exact wg_iret X ⟨(Prod.mk.inj (sm_inj h)).1, rfl, (Prod.mk.inj (sm_inj h)).2⟩ hr dX9_copy_16
-- WindowsGiveModel.weathers(IIII)I (('c', 55), 'i', 'i', 'i', 'i')
def f_X9_weathers_l75 (N : Nat)  (x1 : Int32) (x3 : Int32) (x4 : Int32) (M : wg_M) (x5 : Int32) (x6 : Int32) : Option ((wg_M × Int32 × Int32) ⊕ ((wg_M × Int32 × Int32) ⊕ (Int32 × wg_M))) :=
  if x4 ≤ x6 then (
    some (.inr (.inl (M, x5, x6))))
  else (
    if x3 < 0 then (
      some (.inr (.inr ((-12 : Int32), M))))
    else (
      ck (inb x1 4) <|
      if x3 ≤ (((M.1 73 x1.toNatClampNeg) - ((2 : Int32) * x6)) - (2 : Int32)) then (
        lt_ ((((40 : Int32) * x1) + x3) + ((2 : Int32) * x6)) fun v18 =>
        ck (inb v18 160) <|
        ck (inb (v18 + (1 : Int32)) 160) <|
        bd2 (f_X9_set M (0 : Int32) (M.1 74 v18.toNatClampNeg) (M.1 74 (v18 + (1 : Int32)).toNatClampNeg)) fun r23 M24 =>
        if r23 < 0 then (
          lt_ (x5 + (0 : Int32)) fun v26 =>
          lt_ (x6 + (1 : Int32)) fun v28 =>
          some (.inl (M24, v26, v28)))
        else (
          lt_ (x5 + (1 : Int32)) fun v30 =>
          lt_ (x6 + (1 : Int32)) fun v32 =>
          some (.inl (M24, v30, v32))))
      else (
        some (.inr (.inr ((-12 : Int32), M))))))
def f_X9_weathers_j57 (N : Nat) (M : wg_M)  (x1 : Int32) (x3 : Int32) (x4 : Int32) : Option (Int32 × wg_M) :=
  ck (inb x1 4) <|
  if (M.1 71 x1.toNatClampNeg) = 0 then (
    some ((-11 : Int32), M))
  else (
    bs3 (lp (fun o => f_X9_weathers_l75 N  x1 x3 x4 o.1 o.2.1 o.2.2) N (M, (0 : Int32), (0 : Int32))) (fun M34 v35 v36 =>
      some (v35, M34))
      (fun q39 => some q39))
def f_X9_weathers (N : Nat) (M : wg_M) (p1 : Int32) (p2 : Int32) (p3 : Int32) (p4 : Int32) : Option (Int32 × wg_M) :=
  bd (f_X9_isSheet p1) fun r2 =>
  if r2 = 0 then (
    some ((-2 : Int32), M))
  else (
    bd (f_X9_in p2.toInt64 (0 : Int64) (2 : Int64)) fun r5 =>
    if r5 = 0 then (
      some ((-2 : Int32), M))
    else (
      bd (f_X9_in p4.toInt64 (0 : Int64) (20 : Int64)) fun r8 =>
      if r8 = 0 then (
        some ((-2 : Int32), M))
      else (
        ck (inb p1 4) <|
        if (M.1 71 p1.toNatClampNeg) = 0 then (
          f_X9_weathers_j57 N M  p1 p3 p4)
        else (
          ck (inb p1 4) <|
          if (M.1 72 p1.toNatClampNeg) = p2 then (
            f_X9_weathers_j57 N M  p1 p3 p4)
          else (
            some ((-13 : Int32), M))))))
abbrev G_X9_weathers (p : Program) (l : Launch) (e : Env) (s : State) (m : MethodId) (args : Array Value) (below : List Frame) (meth : Method) (c : Code) (E : wg_Ev) (ad : Nat → Nat) (S : wg_Sh) (r0 : Int32) (C0 : wg_C) (M0 : wg_M) (pc : Nat) (C : wg_C) (M : wg_M) (lv : List (Nat × Value)) (st : List Value) : Prop := wg_G p l e (wg_Rm 4 92) s m args below meth c (MQ below (wg_Qi E ad S r0 C0 M0) args s 0 0 (wg_A E)) 8 E ad S 0 0 pc C M lv st
set_option maxHeartbeats 4000000 in
set_option maxRecDepth 100000 in
theorem L_X9_weathers_l75 {p : Program} {l : Launch} {e : Env} {s : State} {m : MethodId} {args : Array Value} {below : List Frame} {meth : Method} {c : Code} {E : wg_Ev} {ad : Nat → Nat} {S : wg_Sh} (X : wg_X p s m args meth c cX9_weathers 8 RX9 E) (hr : meth.sig.returnType = (some .int)) (hS : wg_SM S) (r0 : Int32) (D0 : wg_M) (C : wg_C) (N : Nat)   (x1 : Int32) (x3 : Int32) (x4 : Int32)  : ∀ (n : Nat) (M : wg_M) (x5 : Int32) (x6 : Int32) (o : ((wg_M × Int32 × Int32) ⊕ (Int32 × wg_M))), lp (fun o => f_X9_weathers_l75 N  x1 x3 x4 o.1 o.2.1 o.2.2) n (M, x5, x6) = some o → (∀ (Dy : wg_M) (y5 : Int32) (y6 : Int32), o = Sum.inl (Dy, y5, y6) → G_X9_weathers p l e s m args below meth c E ad S r0 C D0 159 C Dy [(0, .ref (ad 55)), (1, .int x1), (3, .int x3), (4, .int x4), (5, .int y5), (6, .int y6)] []) → (∀ q : (Int32 × wg_M), o = Sum.inr q → q = (r0, D0)) → G_X9_weathers p l e s m args below meth c E ad S r0 C D0 75 C M [(0, .ref (ad 55)), (1, .int x1), (3, .int x3), (4, .int x4), (5, .int x5), (6, .int x6)] [] := by
  intro n
  induction n with
  | zero => exact fun _ _ _ o h => (lp_zero h).elim
  | succ n ih =>
    intro M x5 x6 o h K KR
    obtain ⟨o1, hb, h2⟩ := lp_some h
    replace hb : f_X9_weathers_l75 N  x1 x3 x4 M x5 x6 = some o1 := hb
    clear h
    have Kc : ∀ (Dy : wg_M) (y5 : Int32) (y6 : Int32), o1 = Sum.inl (Dy, y5, y6) → G_X9_weathers p l e s m args below meth c E ad S r0 C D0 75 C Dy [(0, .ref (ad 55)), (1, .int x1), (3, .int x3), (4, .int x4), (5, .int y5), (6, .int y6)] [] := fun Dy y5 y6 e1 => by
      subst e1
      exact ih Dy y5 y6 o h2 K KR
    have Ke : ∀ (Dy : wg_M) (y5 : Int32) (y6 : Int32), o1 = Sum.inr (Sum.inl (Dy, y5, y6)) → G_X9_weathers p l e s m args below meth c E ad S r0 C D0 159 C Dy [(0, .ref (ad 55)), (1, .int x1), (3, .int x3), (4, .int x4), (5, .int y5), (6, .int y6)] [] := fun Dy y5 y6 e1 => by
      subst e1
      exact K Dy y5 y6 (sm_inj (α := ((wg_M × Int32 × Int32) ⊕ (Int32 × wg_M))) h2).symm
    have Kr : ∀ q : (Int32 × wg_M), o1 = Sum.inr (Sum.inr q) → q = (r0, D0) := fun q e1 => by
      subst e1
      exact KR q (sm_inj (α := ((wg_M × Int32 × Int32) ⊕ (Int32 × wg_M))) h2).symm
    clear ih K h2 KR
    unfold f_X9_weathers_l75 at hb
    have h := hb
    clear hb
    refine wg_iload X 5 dX9_weathers_75 rfl ?_
    refine wg_iload X 3 dX9_weathers_77 rfl ?_
    refine wg_icmp_ge X 159 dX9_weathers_79 (by decide) (fun c14 => ?_) (fun c14 => ?_)
    · have h := if_t c14 h
      exact Ke M x5 x6 (sm_inj h).symm
    · have h := if_f c14 h
      refine wg_iload_n X 2 dX9_weathers_82 rfl rfl ?_
      refine wg_if_lt X 103 dX9_weathers_83 (by decide) (fun c15 => ?_) (fun c15 => ?_)
      · have h := if_t c15 h
        refine wg_bipush (v := -12) X dX9_weathers_103 (by decide) ?_
        have hq := Kr _ (sm_inj h).symm
        exact wg_iret X ⟨(Prod.mk.inj hq).1, rfl, (Prod.mk.inj hq).2⟩ hr dX9_weathers_105
      · have h := if_f c15 h
        refine wg_iload_n X 2 dX9_weathers_86 rfl rfl ?_
        refine wg_aload_n X 0 dX9_weathers_87 rfl rfl ?_
        refine wg_getR (b := 73) X cl9 (SMi hS 55 9 rfl) 42 (by decide) dX9_weathers_88 k_924 rfl (SMr hS 42 73 rfl) ?_
        refine wg_iload_n X 1 dX9_weathers_91 rfl rfl ?_
        obtain ⟨z16, h⟩ := ck_some h
        refine wg_mald X (SMi hS 73 11 rfl) (SMl hS 73 4 rfl) z16 dX9_weathers_92 ?_
        refine wg_iconst (v := 2) X dX9_weathers_93 (by decide) ?_
        refine wg_iload X 5 dX9_weathers_94 rfl ?_
        refine wg_imul X dX9_weathers_96 ?_
        refine wg_isub X dX9_weathers_97 ?_
        refine wg_iconst (v := 2) X dX9_weathers_98 (by decide) ?_
        refine wg_isub X dX9_weathers_99 ?_
        refine wg_icmp_le X 106 dX9_weathers_100 (by decide) (fun c17 => ?_) (fun c17 => ?_)
        · have h := if_t c17 h
          refine wg_bipush (v := 40) X dX9_weathers_106 (by decide) ?_
          refine wg_iload_n X 1 dX9_weathers_108 rfl rfl ?_
          refine wg_imul X dX9_weathers_109 ?_
          refine wg_iload_n X 2 dX9_weathers_110 rfl rfl ?_
          refine wg_iadd X dX9_weathers_111 ?_
          refine wg_iconst (v := 2) X dX9_weathers_112 (by decide) ?_
          refine wg_iload X 5 dX9_weathers_113 rfl ?_
          refine wg_imul X dX9_weathers_115 ?_
          refine wg_iadd X dX9_weathers_116 ?_
          obtain ⟨v18, e19, h⟩ := lt_some h
          refine wg_istore (lv' := [(7, .int v18), (0, .ref (ad 55)), (1, .int x1), (3, .int x3), (4, .int x4), (5, .int x5), (6, .int x6)]) X dX9_weathers_117 e19 (by decide) rfl ?_
          refine wg_iload X 5 dX9_weathers_119 rfl ?_
          refine wg_aload_n X 1 dX9_weathers_121 rfl rfl ?_
          refine wg_iconst (v := 0) X dX9_weathers_122 (by decide) ?_
          refine wg_aload_n X 1 dX9_weathers_123 rfl rfl ?_
          refine wg_getR (b := 74) X cl9 (SMi hS 55 9 rfl) 43 (by decide) dX9_weathers_124 k_925 rfl (SMr hS 43 74 rfl) ?_
          refine wg_iload X 0 dX9_weathers_127 rfl ?_
          obtain ⟨z20, h⟩ := ck_some h
          refine wg_mald X (SMi hS 74 11 rfl) (SMl hS 74 160 rfl) z20 dX9_weathers_129 ?_
          refine wg_aload_n X 1 dX9_weathers_130 rfl rfl ?_
          refine wg_getR (b := 74) X cl9 (SMi hS 55 9 rfl) 43 (by decide) dX9_weathers_131 k_925 rfl (SMr hS 43 74 rfl) ?_
          refine wg_iload X 0 dX9_weathers_134 rfl ?_
          refine wg_iconst (v := 1) X dX9_weathers_136 (by decide) ?_
          refine wg_iadd X dX9_weathers_137 ?_
          obtain ⟨z21, h⟩ := ck_some h
          refine wg_mald X (SMi hS 74 11 rfl) (SMl hS 74 160 rfl) z21 dX9_weathers_138 ?_
          obtain ⟨r23, M24, h22, h⟩ := bd2_some h
          refine wg_callVi (As := [.int (0 : Int32), .int (M.1 74 v18.toNatClampNeg), .int (M.1 74 (v18 + (1 : Int32)).toNatClampNeg)]) (rest := [.int x5]) X (c_X9_set l E ad S hS C M (0 : Int32) (M.1 74 v18.toNatClampNeg) (M.1 74 (v18 + (1 : Int32)).toNatClampNeg)  h22) T_yX9_set k_1315 cl9 (SMi hS 55 9 rfl) dX9_weathers_139 rfl rfl (Nat.le_of_ble_eq_true rfl) ⟨Nat.le_of_ble_eq_true rfl, Nat.le_of_ble_eq_true rfl⟩ ⟨Nat.zero_le _, Nat.zero_le _⟩ ?_
          refine wg_if_lt X 149 dX9_weathers_142 (by decide) (fun c25 => ?_) (fun c25 => ?_)
          · have h := if_t c25 h
            refine wg_iconst (v := 0) X dX9_weathers_149 (by decide) ?_
            refine wg_iadd X dX9_weathers_150 ?_
            obtain ⟨v26, e27, h⟩ := lt_some h
            refine wg_istore (lv' := [(5, .int v26), (7, .int v18), (0, .ref (ad 55)), (1, .int x1), (3, .int x3), (4, .int x4), (6, .int x6)]) X dX9_weathers_151 e27 (by decide) rfl ?_
            obtain ⟨v28, e29, h⟩ := lt_some h
            refine wg_iinc (lv' := [(6, .int v28), (5, .int v26), (7, .int v18), (0, .ref (ad 55)), (1, .int x1), (3, .int x3), (4, .int x4)]) X 6 dX9_weathers_153 rfl e29 (by decide) rfl ?_
            refine wg_goto X 75 dX9_weathers_156 (by decide) ?_
            refine wg_pick [3, 4, 5, 6, 1, 0] (lv' := [(0, .ref (ad 55)), (1, .int x1), (3, .int x3), (4, .int x4), (5, .int v26), (6, .int v28)]) rfl ?_
            exact Kc M24 v26 v28 (sm_inj h).symm
          · have h := if_f c25 h
            refine wg_iconst (v := 1) X dX9_weathers_145 (by decide) ?_
            refine wg_goto X 150 dX9_weathers_146 (by decide) ?_
            refine wg_iadd X dX9_weathers_150 ?_
            obtain ⟨v30, e31, h⟩ := lt_some h
            refine wg_istore (lv' := [(5, .int v30), (7, .int v18), (0, .ref (ad 55)), (1, .int x1), (3, .int x3), (4, .int x4), (6, .int x6)]) X dX9_weathers_151 e31 (by decide) rfl ?_
            obtain ⟨v32, e33, h⟩ := lt_some h
            refine wg_iinc (lv' := [(6, .int v32), (5, .int v30), (7, .int v18), (0, .ref (ad 55)), (1, .int x1), (3, .int x3), (4, .int x4)]) X 6 dX9_weathers_153 rfl e33 (by decide) rfl ?_
            refine wg_goto X 75 dX9_weathers_156 (by decide) ?_
            refine wg_pick [3, 4, 5, 6, 1, 0] (lv' := [(0, .ref (ad 55)), (1, .int x1), (3, .int x3), (4, .int x4), (5, .int v30), (6, .int v32)]) rfl ?_
            exact Kc M24 v30 v32 (sm_inj h).symm
        · have h := if_f c17 h
          refine wg_bipush (v := -12) X dX9_weathers_103 (by decide) ?_
          have hq := Kr _ (sm_inj h).symm
          exact wg_iret X ⟨(Prod.mk.inj hq).1, rfl, (Prod.mk.inj hq).2⟩ hr dX9_weathers_105
set_option maxHeartbeats 4000000 in
set_option maxRecDepth 100000 in
theorem J_X9_weathers_j57 {p : Program} {l : Launch} {e : Env} {s : State} {m : MethodId} {args : Array Value} {below : List Frame} {meth : Method} {c : Code} {E : wg_Ev} {ad : Nat → Nat} {S : wg_Sh} (X : wg_X p s m args meth c cX9_weathers 8 RX9 E) (hr : meth.sig.returnType = (some .int)) (hS : wg_SM S) (r0 : Int32) (D0 : wg_M) (C : wg_C) (N : Nat)  (M : wg_M)  (x1 : Int32) (x3 : Int32) (x4 : Int32)   (h : f_X9_weathers_j57 N M  x1 x3 x4 = some (r0, D0)) : G_X9_weathers p l e s m args below meth c E ad S r0 C D0 57 C M [(0, .ref (ad 55)), (1, .int x1), (3, .int x3), (4, .int x4)] [] := by
  unfold f_X9_weathers_j57 at h
  refine wg_aload_n X 0 dX9_weathers_57 rfl rfl ?_
  refine wg_getR (b := 71) X cl9 (SMi hS 55 9 rfl) 40 (by decide) dX9_weathers_58 k_922 rfl (SMr hS 40 71 rfl) ?_
  refine wg_iload_n X 1 dX9_weathers_61 rfl rfl ?_
  obtain ⟨z12, h⟩ := ck_some h
  refine wg_zald X (SMi hS 71 12 rfl) (SMl hS 71 4 rfl) z12 dX9_weathers_62 ?_
  refine wg_if_ne X 69 dX9_weathers_63 (by decide) (fun c13 => ?_) (fun c13 => ?_)
  · have h := if_f c13 h
    refine wg_iconst (v := 0) X dX9_weathers_69 (by decide) ?_
    refine wg_istore (lv' := [(5, .int (0 : Int32)), (0, .ref (ad 55)), (1, .int x1), (3, .int x3), (4, .int x4)]) X dX9_weathers_70 rfl (by decide) rfl ?_
    refine wg_iconst (v := 0) X dX9_weathers_72 (by decide) ?_
    refine wg_istore (lv' := [(6, .int (0 : Int32)), (5, .int (0 : Int32)), (0, .ref (ad 55)), (1, .int x1), (3, .int x3), (4, .int x4)]) X dX9_weathers_73 rfl (by decide) rfl ?_
    obtain ⟨o37, h38, h⟩ := bs3_o h
    refine wg_pick [2, 3, 4, 5, 1, 0] (lv' := [(0, .ref (ad 55)), (1, .int x1), (3, .int x3), (4, .int x4), (5, .int (0 : Int32)), (6, .int (0 : Int32))]) rfl ?_
    refine L_X9_weathers_l75 X hr hS r0 D0 C N   x1 x3 x4  N M (0 : Int32) (0 : Int32) o37 h38 (fun M34 v35 v36 e40 => ?_) (fun q39 e40 => ?_)
    · subst o37
      replace h := bs3_in h
      refine wg_iload X 4 dX9_weathers_159 rfl ?_
      exact wg_iret X ⟨(Prod.mk.inj (sm_inj h)).1, rfl, (Prod.mk.inj (sm_inj h)).2⟩ hr dX9_weathers_161
    · subst o37
      replace h := bs3_r h
      exact sm_inj h
  · have h := if_t c13 h
    refine wg_bipush (v := -11) X dX9_weathers_66 (by decide) ?_
    exact wg_iret X ⟨(Prod.mk.inj (sm_inj h)).1, rfl, (Prod.mk.inj (sm_inj h)).2⟩ hr dX9_weathers_68
set_option maxHeartbeats 4000000 in
set_option maxRecDepth 100000 in
theorem c_X9_weathers (l : Launch) (E : wg_Ev) (ad : Nat → Nat) (S : wg_Sh) (hS : wg_SM S) (N : Nat) (C : wg_C) (M : wg_M) (p1 : Int32) (p2 : Int32) (p3 : Int32) (p4 : Int32)  {r0 : Int32} {D0 : wg_M} (h : f_X9_weathers N M p1 p2 p3 p4 = some (r0, D0)) : wg_Ci l yX9_weathers cX9_weathers 8 (some .int) 4 92 E ad S C M [.ref (ad 55), .int p1, .int p2, .int p3, .int p4] r0 C D0 := by
  refine wg_start (own := RX9) (by decide +kernel) rfl (Nat.le_of_ble_eq_true rfl) ?_
  intro p e s m below meth c X hr hnm
  refine wg_lv (lv' := [(0, .ref (ad 55)), (1, .int p1), (2, .int p2), (3, .int p3), (4, .int p4)]) rfl ?_
  unfold f_X9_weathers at h
  refine wg_iload_n X 1 dX9_weathers_0 rfl rfl ?_
  obtain ⟨r2, h1, h⟩ := bd_some h
  refine wg_callSi (As := [.int p1]) (rest := []) X (c_X9_isSheet l E ad S C M p1  h1) T_yX9_isSheet k_1217 dX9_weathers_1 rfl rfl (Nat.le_of_ble_eq_true rfl) ⟨Nat.le_of_ble_eq_true rfl, Nat.le_of_ble_eq_true rfl⟩ ⟨Nat.zero_le _, Nat.zero_le _⟩ ?_
  refine wg_if_eq X 32 dX9_weathers_4 (by decide) (fun c3 => ?_) (fun c3 => ?_)
  · have h := if_t c3 h
    refine wg_bipush (v := -2) X dX9_weathers_32 (by decide) ?_
    exact wg_iret X ⟨(Prod.mk.inj (sm_inj h)).1, rfl, (Prod.mk.inj (sm_inj h)).2⟩ hr dX9_weathers_34
  · have h := if_f c3 h
    refine wg_iload_n X 2 dX9_weathers_7 rfl rfl ?_
    refine wg_i2l X dX9_weathers_8 ?_
    refine wg_lconst (v := 0) X dX9_weathers_9 (by decide) ?_
    refine wg_ldc2 (v := 2) X dX9_weathers_10 k_1061 ?_
    obtain ⟨r5, h4, h⟩ := bd_some h
    refine wg_callSi (As := [.long (p2.toInt64), .long (0 : Int64), .long (2 : Int64)]) (rest := []) X (c_X9_in l E ad S C M p2.toInt64 (0 : Int64) (2 : Int64)  h4) T_yX9_in k_1021 dX9_weathers_13 rfl rfl (Nat.le_of_ble_eq_true rfl) ⟨Nat.le_of_ble_eq_true rfl, Nat.le_of_ble_eq_true rfl⟩ ⟨Nat.zero_le _, Nat.zero_le _⟩ ?_
    refine wg_if_eq X 32 dX9_weathers_16 (by decide) (fun c6 => ?_) (fun c6 => ?_)
    · have h := if_t c6 h
      refine wg_bipush (v := -2) X dX9_weathers_32 (by decide) ?_
      exact wg_iret X ⟨(Prod.mk.inj (sm_inj h)).1, rfl, (Prod.mk.inj (sm_inj h)).2⟩ hr dX9_weathers_34
    · have h := if_f c6 h
      refine wg_iload X 4 dX9_weathers_19 rfl ?_
      refine wg_i2l X dX9_weathers_21 ?_
      refine wg_lconst (v := 0) X dX9_weathers_22 (by decide) ?_
      refine wg_ldc2 (v := 20) X dX9_weathers_23 k_1287 ?_
      obtain ⟨r8, h7, h⟩ := bd_some h
      refine wg_callSi (As := [.long (p4.toInt64), .long (0 : Int64), .long (20 : Int64)]) (rest := []) X (c_X9_in l E ad S C M p4.toInt64 (0 : Int64) (20 : Int64)  h7) T_yX9_in k_1021 dX9_weathers_26 rfl rfl (Nat.le_of_ble_eq_true rfl) ⟨Nat.le_of_ble_eq_true rfl, Nat.le_of_ble_eq_true rfl⟩ ⟨Nat.zero_le _, Nat.zero_le _⟩ ?_
      refine wg_if_ne X 35 dX9_weathers_29 (by decide) (fun c9 => ?_) (fun c9 => ?_)
      · have h := if_f c9 h
        refine wg_aload_n X 0 dX9_weathers_35 rfl rfl ?_
        refine wg_getR (b := 71) X cl9 (SMi hS 55 9 rfl) 40 (by decide) dX9_weathers_36 k_922 rfl (SMr hS 40 71 rfl) ?_
        refine wg_iload_n X 1 dX9_weathers_39 rfl rfl ?_
        obtain ⟨z10, h⟩ := ck_some h
        refine wg_zald X (SMi hS 71 12 rfl) (SMl hS 71 4 rfl) z10 dX9_weathers_40 ?_
        refine wg_if_eq X 57 dX9_weathers_41 (by decide) (fun c11 => ?_) (fun c11 => ?_)
        · have h := if_t c11 h
          refine wg_pick [0, 1, 3, 4] (lv' := [(0, .ref (ad 55)), (1, .int p1), (3, .int p3), (4, .int p4)]) rfl ?_
          exact J_X9_weathers_j57 X hr hS r0 D0 C N  M  p1 p3 p4   h
        · have h := if_f c11 h
          refine wg_aload_n X 0 dX9_weathers_44 rfl rfl ?_
          refine wg_getR (b := 72) X cl9 (SMi hS 55 9 rfl) 41 (by decide) dX9_weathers_45 k_923 rfl (SMr hS 41 72 rfl) ?_
          refine wg_iload_n X 1 dX9_weathers_48 rfl rfl ?_
          obtain ⟨z41, h⟩ := ck_some h
          refine wg_mald X (SMi hS 72 11 rfl) (SMl hS 72 4 rfl) z41 dX9_weathers_49 ?_
          refine wg_iload_n X 2 dX9_weathers_50 rfl rfl ?_
          refine wg_icmp_eq X 57 dX9_weathers_51 (by decide) (fun c42 => ?_) (fun c42 => ?_)
          · have h := if_t c42 h
            refine wg_pick [0, 1, 3, 4] (lv' := [(0, .ref (ad 55)), (1, .int p1), (3, .int p3), (4, .int p4)]) rfl ?_
            exact J_X9_weathers_j57 X hr hS r0 D0 C N  M  p1 p3 p4   h
          · have h := if_f c42 h
            refine wg_bipush (v := -13) X dX9_weathers_54 (by decide) ?_
            exact wg_iret X ⟨(Prod.mk.inj (sm_inj h)).1, rfl, (Prod.mk.inj (sm_inj h)).2⟩ hr dX9_weathers_56
      · have h := if_t c9 h
        refine wg_bipush (v := -2) X dX9_weathers_32 (by decide) ?_
        exact wg_iret X ⟨(Prod.mk.inj (sm_inj h)).1, rfl, (Prod.mk.inj (sm_inj h)).2⟩ hr dX9_weathers_34
-- WindowsGiveModel.over(I)I ('i',)
def f_X9_over (p0 : Int32) : Option Int32 :=
  if p0 = 0 then (
    some (-1 : Int32))
  else (
    if p0 = (3 : Int32) then (
      some (1 : Int32))
    else (
      if p0 = (4 : Int32) then (
        some (2 : Int32))
      else (
        some (0 : Int32))))
set_option maxHeartbeats 4000000 in
set_option maxRecDepth 100000 in
theorem c_X9_over (l : Launch) (E : wg_Ev) (ad : Nat → Nat) (S : wg_Sh) (C : wg_C) (M : wg_M) (p0 : Int32)  {r0 : Int32} (h : f_X9_over p0 = some r0) : wg_Ci l yX9_over cX9_over 1 (some .int) 0 0 E ad S C M [.int p0] r0 C M := by
  refine wg_start (own := RX9) (by decide +kernel) rfl (Nat.le_of_ble_eq_true rfl) ?_
  intro p e s m below meth c X hr hnm
  refine wg_lv (lv' := [(0, .int p0)]) rfl ?_
  unfold f_X9_over at h
  refine wg_iload_n X 0 dX9_over_0 rfl rfl ?_
  refine wg_if_ne X 8 dX9_over_1 (by decide) (fun c1 => ?_) (fun c1 => ?_)
  · have h := if_f c1 h
    refine wg_iload_n X 0 dX9_over_8 rfl rfl ?_
    refine wg_iconst (v := 3) X dX9_over_9 (by decide) ?_
    refine wg_icmp_ne X 17 dX9_over_10 (by decide) (fun c2 => ?_) (fun c2 => ?_)
    · have h := if_f c2 h
      refine wg_iload_n X 0 dX9_over_17 rfl rfl ?_
      refine wg_iconst (v := 4) X dX9_over_18 (by decide) ?_
      refine wg_icmp_ne X 26 dX9_over_19 (by decide) (fun c3 => ?_) (fun c3 => ?_)
      · have h := if_f c3 h
        refine wg_iconst (v := 0) X dX9_over_26 (by decide) ?_
        exact wg_iret X ⟨(sm_inj h), rfl, rfl⟩ hr dX9_over_27
      · have h := if_t c3 h
        refine wg_iconst (v := 2) X dX9_over_22 (by decide) ?_
        refine wg_goto X 27 dX9_over_23 (by decide) ?_
        exact wg_iret X ⟨(sm_inj h), rfl, rfl⟩ hr dX9_over_27
    · have h := if_t c2 h
      refine wg_iconst (v := 1) X dX9_over_13 (by decide) ?_
      refine wg_goto X 27 dX9_over_14 (by decide) ?_
      exact wg_iret X ⟨(sm_inj h), rfl, rfl⟩ hr dX9_over_27
  · have h := if_t c1 h
    refine wg_iconst (v := -1) X dX9_over_4 (by decide) ?_
    refine wg_goto X 27 dX9_over_5 (by decide) ?_
    exact wg_iret X ⟨(sm_inj h), rfl, rfl⟩ hr dX9_over_27
-- WindowsGiveModel.taken(II)I (('c', 55), 'i', 'i')
def f_X9_taken_l33 (N : Nat) (M : wg_M)  (x1 : Int32) (x2 : Int32) (x3 : Int32) : Option ((Int32) ⊕ (Int32)) :=
  if x3 = (-1 : Int32) then (
    some (.inr x3))
  else (
    if x3 = x2 then (
      some (.inr x3))
    else (
      bd (f_X9_over x3) fun r13 =>
      some (.inl r13)))
def f_X9_taken (N : Nat) (M : wg_M) (p1 : Int32) (p2 : Int32) : Option Int32 :=
  bd (f_X9_in p2.toInt64 (0 : Int64) (5 : Int64)) fun r2 =>
  if r2 = 0 then (
    some (-2 : Int32))
  else (
    bd (f_X9_isPane M p1) fun r5 =>
    if r5 = 0 then (
      some (-11 : Int32))
    else (
      ck (inb p1 8) <|
      lt_ (M.1 60 p1.toNatClampNeg) fun v8 =>
      bd (lp (fun o => f_X9_taken_l33 N M  p1 p2 o) N v8) fun v14 =>
      if v14 = p2 then (
        ck (inb p1 8) <|
        some (M.1 61 p1.toNatClampNeg))
      else (
        some (-13 : Int32))))
abbrev G_X9_taken (p : Program) (l : Launch) (e : Env) (s : State) (m : MethodId) (args : Array Value) (below : List Frame) (meth : Method) (c : Code) (E : wg_Ev) (ad : Nat → Nat) (S : wg_Sh) (r0 : Int32) (C0 : wg_C) (M0 : wg_M) (pc : Nat) (C : wg_C) (M : wg_M) (lv : List (Nat × Value)) (st : List Value) : Prop := wg_G p l e (wg_Rm 2 46) s m args below meth c (MQ below (wg_Qi E ad S r0 C0 M0) args s 0 0 (wg_A E)) 4 E ad S 0 0 pc C M lv st
set_option maxHeartbeats 4000000 in
set_option maxRecDepth 100000 in
theorem L_X9_taken_l33 {p : Program} {l : Launch} {e : Env} {s : State} {m : MethodId} {args : Array Value} {below : List Frame} {meth : Method} {c : Code} {E : wg_Ev} {ad : Nat → Nat} {S : wg_Sh} (X : wg_X p s m args meth c cX9_taken 4 RX9 E) (hr : meth.sig.returnType = (some .int)) (hS : wg_SM S) (r0 : Int32) (C : wg_C) (N : Nat)  (M : wg_M)  (x1 : Int32) (x2 : Int32)  : ∀ (n : Nat) (x3 : Int32) (o : (Int32)), lp (fun o => f_X9_taken_l33 N M  x1 x2 o) n x3 = some o → (∀ (y3 : Int32), o = y3 → G_X9_taken p l e s m args below meth c E ad S r0 C M 51 C M [(0, .ref (ad 55)), (1, .int x1), (2, .int x2), (3, .int y3)] []) → G_X9_taken p l e s m args below meth c E ad S r0 C M 33 C M [(0, .ref (ad 55)), (1, .int x1), (2, .int x2), (3, .int x3)] [] := by
  intro n
  induction n with
  | zero => exact fun _ o h => (lp_zero h).elim
  | succ n ih =>
    intro x3 o h K
    obtain ⟨o1, hb, h2⟩ := lp_some h
    replace hb : f_X9_taken_l33 N M  x1 x2 x3 = some o1 := hb
    clear h
    have Kc : ∀ (y3 : Int32), o1 = Sum.inl y3 → G_X9_taken p l e s m args below meth c E ad S r0 C M 33 C M [(0, .ref (ad 55)), (1, .int x1), (2, .int x2), (3, .int y3)] [] := fun y3 e1 => by
      subst e1
      exact ih y3 o h2 K
    have Ke : ∀ (y3 : Int32), o1 = Sum.inr (y3) → G_X9_taken p l e s m args below meth c E ad S r0 C M 51 C M [(0, .ref (ad 55)), (1, .int x1), (2, .int x2), (3, .int y3)] [] := fun y3 e1 => by
      subst e1
      exact K y3 (sm_inj (α := (Int32)) h2).symm
    clear ih K h2
    unfold f_X9_taken_l33 at hb
    have h := hb
    clear hb
    refine wg_iload_n X 3 dX9_taken_33 rfl rfl ?_
    refine wg_iconst (v := -1) X dX9_taken_34 (by decide) ?_
    refine wg_icmp_eq X 51 dX9_taken_35 (by decide) (fun c10 => ?_) (fun c10 => ?_)
    · have h := if_t c10 h
      exact Ke x3 (sm_inj h).symm
    · have h := if_f c10 h
      refine wg_iload_n X 3 dX9_taken_38 rfl rfl ?_
      refine wg_iload_n X 2 dX9_taken_39 rfl rfl ?_
      refine wg_icmp_eq X 51 dX9_taken_40 (by decide) (fun c11 => ?_) (fun c11 => ?_)
      · have h := if_t c11 h
        exact Ke x3 (sm_inj h).symm
      · have h := if_f c11 h
        refine wg_iload_n X 3 dX9_taken_43 rfl rfl ?_
        obtain ⟨r13, h12, h⟩ := bd_some h
        refine wg_callSi (As := [.int x3]) (rest := []) X (c_X9_over l E ad S C M x3  h12) T_yX9_over k_1320 dX9_taken_44 rfl rfl (Nat.le_of_ble_eq_true rfl) ⟨Nat.le_of_ble_eq_true rfl, Nat.le_of_ble_eq_true rfl⟩ ⟨Nat.zero_le _, Nat.zero_le _⟩ ?_
        refine wg_istore_n (lv' := [(3, .int r13), (0, .ref (ad 55)), (1, .int x1), (2, .int x2)]) X dX9_taken_47 rfl rfl (by decide) rfl ?_
        refine wg_goto X 33 dX9_taken_48 (by decide) ?_
        refine wg_pick [1, 2, 3, 0] (lv' := [(0, .ref (ad 55)), (1, .int x1), (2, .int x2), (3, .int r13)]) rfl ?_
        exact Kc r13 (sm_inj h).symm
set_option maxHeartbeats 4000000 in
set_option maxRecDepth 100000 in
theorem c_X9_taken (l : Launch) (E : wg_Ev) (ad : Nat → Nat) (S : wg_Sh) (hS : wg_SM S) (N : Nat) (C : wg_C) (M : wg_M) (p1 : Int32) (p2 : Int32)  {r0 : Int32} (h : f_X9_taken N M p1 p2 = some r0) : wg_Ci l yX9_taken cX9_taken 4 (some .int) 2 46 E ad S C M [.ref (ad 55), .int p1, .int p2] r0 C M := by
  refine wg_start (own := RX9) (by decide +kernel) rfl (Nat.le_of_ble_eq_true rfl) ?_
  intro p e s m below meth c X hr hnm
  refine wg_lv (lv' := [(0, .ref (ad 55)), (1, .int p1), (2, .int p2)]) rfl ?_
  unfold f_X9_taken at h
  refine wg_iload_n X 2 dX9_taken_0 rfl rfl ?_
  refine wg_i2l X dX9_taken_1 ?_
  refine wg_lconst (v := 0) X dX9_taken_2 (by decide) ?_
  refine wg_ldc2 (v := 5) X dX9_taken_3 k_1033 ?_
  obtain ⟨r2, h1, h⟩ := bd_some h
  refine wg_callSi (As := [.long (p2.toInt64), .long (0 : Int64), .long (5 : Int64)]) (rest := []) X (c_X9_in l E ad S C M p2.toInt64 (0 : Int64) (5 : Int64)  h1) T_yX9_in k_1021 dX9_taken_6 rfl rfl (Nat.le_of_ble_eq_true rfl) ⟨Nat.le_of_ble_eq_true rfl, Nat.le_of_ble_eq_true rfl⟩ ⟨Nat.zero_le _, Nat.zero_le _⟩ ?_
  refine wg_if_ne X 15 dX9_taken_9 (by decide) (fun c3 => ?_) (fun c3 => ?_)
  · have h := if_f c3 h
    refine wg_aload_n X 0 dX9_taken_15 rfl rfl ?_
    refine wg_iload_n X 1 dX9_taken_16 rfl rfl ?_
    obtain ⟨r5, h4, h⟩ := bd_some h
    refine wg_callVi (As := [.int p1]) (rest := []) X (c_X9_isPane l E ad S hS C M p1  h4) T_yX9_isPane k_1028 cl9 (SMi hS 55 9 rfl) dX9_taken_17 rfl rfl (Nat.le_of_ble_eq_true rfl) ⟨Nat.le_of_ble_eq_true rfl, Nat.le_of_ble_eq_true rfl⟩ ⟨Nat.zero_le _, Nat.zero_le _⟩ ?_
    refine wg_if_ne X 26 dX9_taken_20 (by decide) (fun c6 => ?_) (fun c6 => ?_)
    · have h := if_f c6 h
      refine wg_aload_n X 0 dX9_taken_26 rfl rfl ?_
      refine wg_getR (b := 60) X cl9 (SMi hS 55 9 rfl) 8 (by decide) dX9_taken_27 k_890 rfl (SMr hS 8 60 rfl) ?_
      refine wg_iload_n X 1 dX9_taken_30 rfl rfl ?_
      obtain ⟨z7, h⟩ := ck_some h
      refine wg_mald X (SMi hS 60 11 rfl) (SMl hS 60 8 rfl) z7 dX9_taken_31 ?_
      obtain ⟨v8, e9, h⟩ := lt_some h
      refine wg_istore_n (lv' := [(3, .int v8), (0, .ref (ad 55)), (1, .int p1), (2, .int p2)]) X dX9_taken_32 rfl e9 (by decide) rfl ?_
      obtain ⟨o15, h16, h⟩ := bd_o h
      refine wg_pick [1, 2, 3, 0] (lv' := [(0, .ref (ad 55)), (1, .int p1), (2, .int p2), (3, .int v8)]) rfl ?_
      refine L_X9_taken_l33 X hr hS r0 C N  M  p1 p2  N v8 o15 h16 (fun v14 e18 => ?_)
      · subst o15
        replace h := bd_in h
        refine wg_iload_n X 3 dX9_taken_51 rfl rfl ?_
        refine wg_iload_n X 2 dX9_taken_52 rfl rfl ?_
        refine wg_icmp_ne X 65 dX9_taken_53 (by decide) (fun c19 => ?_) (fun c19 => ?_)
        · have h := if_f c19 h
          refine wg_bipush (v := -13) X dX9_taken_65 (by decide) ?_
          exact wg_iret X ⟨(sm_inj h), rfl, rfl⟩ hr dX9_taken_67
        · have h := if_t c19 h
          refine wg_aload_n X 0 dX9_taken_56 rfl rfl ?_
          refine wg_getR (b := 61) X cl9 (SMi hS 55 9 rfl) 9 (by decide) dX9_taken_57 k_891 rfl (SMr hS 9 61 rfl) ?_
          refine wg_iload_n X 1 dX9_taken_60 rfl rfl ?_
          obtain ⟨z20, h⟩ := ck_some h
          refine wg_mald X (SMi hS 61 11 rfl) (SMl hS 61 8 rfl) z20 dX9_taken_61 ?_
          refine wg_goto X 67 dX9_taken_62 (by decide) ?_
          exact wg_iret X ⟨(sm_inj h), rfl, rfl⟩ hr dX9_taken_67
    · have h := if_t c6 h
      refine wg_bipush (v := -11) X dX9_taken_23 (by decide) ?_
      exact wg_iret X ⟨(sm_inj h), rfl, rfl⟩ hr dX9_taken_25
  · have h := if_t c3 h
    refine wg_bipush (v := -2) X dX9_taken_12 (by decide) ?_
    exact wg_iret X ⟨(sm_inj h), rfl, rfl⟩ hr dX9_taken_14
-- WindowsGive$Tape.empty()V (('c', 23),)
def f_X5_empty (C : wg_C)  : Option wg_C :=
  lt_ (wg_up C 23 1 (0 : Int32)) fun C1 =>
  some C1
set_option maxHeartbeats 4000000 in
set_option maxRecDepth 100000 in
theorem c_X5_empty (l : Launch) (E : wg_Ev) (ad : Nat → Nat) (S : wg_Sh) (hS : wg_SC S) (C : wg_C) (M : wg_M)   {D0 : wg_C} (h : f_X5_empty C  = some D0) : wg_Cv l yX5_empty cX5_empty 1 none 0 0 E ad S C M [.ref (ad 23)] D0 M := by
  refine wg_start (own := RX5) (by decide +kernel) rfl (Nat.le_of_ble_eq_true rfl) ?_
  intro p e s m below meth c X hr hnm
  refine wg_lv (lv' := [(0, .ref (ad 23))]) rfl ?_
  unfold f_X5_empty at h
  refine wg_aload_n X 0 dX5_empty_0 rfl rfl ?_
  refine wg_iconst (v := 0) X dX5_empty_1 (by decide) ?_
  obtain ⟨C1, e2, h⟩ := lt_some h
  refine wg_putCe X cl5 (SCi hS 23 5 rfl) 1 (by decide) dX5_empty_2 k_168 rfl rfl rfl rfl e2 ?_
  exact wg_vret X ⟨(sm_inj h), rfl⟩ hr dX5_empty_5
