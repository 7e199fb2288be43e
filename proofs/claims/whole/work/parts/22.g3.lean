-- WindowsGive.views(III)I (('c', 0), 'i', 'i', 'i')
def f_X8_views_j68l44 (N : Nat) (S : wg_Sh) (C : wg_C)  (x2 : Int32) (x3 : Int32) (x4 : Int32) (x5 : Int32) (x6 : Int32) (s0 : Int32) : Option ((Int32 × Int32 × Int32) ⊕ (Int32 × Int32 × Int32)) :=
  if s0 ≤ x4 then (
    lt_ (x6 + (-1 : Int32)) fun v15 =>
    some (.inl (x4, x5, v15)))
  else (
    lt_ (x6 + (-1 : Int32)) fun v17 =>
    some (.inl (s0, x6, v17)))
def f_X8_views_l44 (N : Nat) (S : wg_Sh) (C : wg_C)  (x2 : Int32) (x3 : Int32) (x4 : Int32) (x5 : Int32) (x6 : Int32) : Option ((Int32 × Int32 × Int32) ⊕ (Int32 × Int32 × Int32)) :=
  if x6 < 0 then (
    some (.inr (x4, x5, x6)))
  else (
    bd (f_J6_bitCount_0f7a4 x6) fun r12 =>
    if r12 = x2 then (
      bd (f_X8_priceTogether N C x6) fun r20 =>
      f_X8_views_j68l44 N S C  x2 x3 x4 x5 x6 r20)
    else (
      f_X8_views_j68l44 N S C  x2 x3 x4 x5 x6 (-1 : Int32)))
def f_X8_views (N : Nat) (S : wg_Sh) (C : wg_C) (p1 : Int32) (p2 : Int32) (p3 : Int32) : Option (Int32 × wg_C) :=
  bd (f_X8_isDay p1) fun r2 =>
  if r2 = 0 then (
    some ((-2 : Int32), C))
  else (
    if p2 < 0 then (
      some ((-2 : Int32), C))
    else (
      if (4 : Int32) < p2 then (
        some ((-2 : Int32), C))
      else (
        if p3 < 0 then (
          some ((-2 : Int32), C))
        else (
          if p3 ≤ (1 : Int32) then (
            bd (f_X8_fillPrices N S C p1) fun C9 =>
            bd3 (lp (fun o => f_X8_views_l44 N S C9  p2 p3 o.1 o.2.1 o.2.2) N ((-1 : Int32), (0 : Int32), (255 : Int32))) fun v21 v22 v23 =>
            if p3 = 0 then (
              some (v21, C9))
            else (
              if v21 = (-1 : Int32) then (
                some (v21, C9))
              else (
                bd (f_X8_digitsOf N v22) fun r31 =>
                some (r31, C9))))
          else (
            some ((-2 : Int32), C))))))
abbrev G_X8_views (p : Program) (l : Launch) (e : Env) (s : State) (m : MethodId) (args : Array Value) (below : List Frame) (meth : Method) (c : Code) (E : wg_Ev) (ad : Nat → Nat) (S : wg_Sh) (r0 : Int32) (C0 : wg_C) (M0 : wg_M) (pc : Nat) (C : wg_C) (M : wg_M) (lv : List (Nat × Value)) (st : List Value) : Prop := wg_G p l e (wg_Rm 5 119) s m args below meth c (MQ below (wg_Qi E ad S r0 C0 M0) args s 0 0 (wg_A E)) 8 E ad S 0 0 pc C M lv st
set_option maxHeartbeats 4000000 in
set_option maxRecDepth 100000 in
theorem J_X8_views_j68l44 {p : Program} {l : Launch} {e : Env} {s : State} {m : MethodId} {args : Array Value} {below : List Frame} {meth : Method} {c : Code} {E : wg_Ev} {ad : Nat → Nat} {S : wg_Sh} (X : wg_X p s m args meth c cX8_views 8 RX8 E) (hr : meth.sig.returnType = (some .int)) (hS : wg_SC S) (r0 : Int32) (D0 : wg_C) (M : wg_M) (N : Nat)  (C : wg_C)  (x2 : Int32) (x3 : Int32) (x4 : Int32) (x5 : Int32) (x6 : Int32) (s0 : Int32)  (y : ((Int32 × Int32 × Int32) ⊕ (Int32 × Int32 × Int32))) (Kc : ∀ (y4 : Int32) (y5 : Int32) (y6 : Int32), y = Sum.inl (y4, y5, y6) → G_X8_views p l e s m args below meth c E ad S r0 D0 M 44 C M [(0, .ref (ad 0)), (2, .int x2), (3, .int x3), (4, .int y4), (5, .int y5), (6, .int y6)] []) (Ke : ∀ (y4 : Int32) (y5 : Int32) (y6 : Int32), y = Sum.inr ((y4, y5, y6)) → G_X8_views p l e s m args below meth c E ad S r0 D0 M 91 C M [(0, .ref (ad 0)), (2, .int x2), (3, .int x3), (4, .int y4), (5, .int y5), (6, .int y6)] []) (h : f_X8_views_j68l44 N S C  x2 x3 x4 x5 x6 s0 = some y) : G_X8_views p l e s m args below meth c E ad S r0 D0 M 68 C M [(0, .ref (ad 0)), (2, .int x2), (3, .int x3), (4, .int x4), (5, .int x5), (6, .int x6)] [.int s0] := by
  unfold f_X8_views_j68l44 at h
  refine wg_istore (lv' := [(7, .int s0), (0, .ref (ad 0)), (2, .int x2), (3, .int x3), (4, .int x4), (5, .int x5), (6, .int x6)]) X dX8_views_68 rfl (by decide) rfl ?_
  refine wg_iload X 0 dX8_views_70 rfl ?_
  refine wg_iload X 4 dX8_views_72 rfl ?_
  refine wg_icmp_le X 85 dX8_views_74 (by decide) (fun c14 => ?_) (fun c14 => ?_)
  · have h := if_t c14 h
    obtain ⟨v15, e16, h⟩ := lt_some h
    refine wg_iinc (lv' := [(6, .int v15), (7, .int s0), (0, .ref (ad 0)), (2, .int x2), (3, .int x3), (4, .int x4), (5, .int x5)]) X 6 dX8_views_85 rfl e16 (by decide) rfl ?_
    refine wg_goto X 44 dX8_views_88 (by decide) ?_
    refine wg_pick [2, 3, 4, 5, 6, 0] (lv' := [(0, .ref (ad 0)), (2, .int x2), (3, .int x3), (4, .int x4), (5, .int x5), (6, .int v15)]) rfl ?_
    exact Kc x4 x5 v15 (sm_inj h).symm
  · have h := if_f c14 h
    refine wg_iload X 0 dX8_views_77 rfl ?_
    refine wg_istore (lv' := [(4, .int s0), (7, .int s0), (0, .ref (ad 0)), (2, .int x2), (3, .int x3), (5, .int x5), (6, .int x6)]) X dX8_views_79 rfl (by decide) rfl ?_
    refine wg_iload X 6 dX8_views_81 rfl ?_
    refine wg_istore (lv' := [(5, .int x6), (4, .int s0), (7, .int s0), (0, .ref (ad 0)), (2, .int x2), (3, .int x3), (6, .int x6)]) X dX8_views_83 rfl (by decide) rfl ?_
    obtain ⟨v17, e18, h⟩ := lt_some h
    refine wg_iinc (lv' := [(6, .int v17), (5, .int x6), (4, .int s0), (7, .int s0), (0, .ref (ad 0)), (2, .int x2), (3, .int x3)]) X 6 dX8_views_85 rfl e18 (by decide) rfl ?_
    refine wg_goto X 44 dX8_views_88 (by decide) ?_
    refine wg_pick [4, 5, 6, 2, 1, 0] (lv' := [(0, .ref (ad 0)), (2, .int x2), (3, .int x3), (4, .int s0), (5, .int x6), (6, .int v17)]) rfl ?_
    exact Kc s0 x6 v17 (sm_inj h).symm
set_option maxHeartbeats 4000000 in
set_option maxRecDepth 100000 in
theorem L_X8_views_l44 {p : Program} {l : Launch} {e : Env} {s : State} {m : MethodId} {args : Array Value} {below : List Frame} {meth : Method} {c : Code} {E : wg_Ev} {ad : Nat → Nat} {S : wg_Sh} (X : wg_X p s m args meth c cX8_views 8 RX8 E) (hr : meth.sig.returnType = (some .int)) (hS : wg_SC S) (r0 : Int32) (D0 : wg_C) (M : wg_M) (N : Nat)  (C : wg_C)  (x2 : Int32) (x3 : Int32)  : ∀ (n : Nat) (x4 : Int32) (x5 : Int32) (x6 : Int32) (o : (Int32 × Int32 × Int32)), lp (fun o => f_X8_views_l44 N S C  x2 x3 o.1 o.2.1 o.2.2) n (x4, x5, x6) = some o → (∀ (y4 : Int32) (y5 : Int32) (y6 : Int32), o = (y4, y5, y6) → G_X8_views p l e s m args below meth c E ad S r0 D0 M 91 C M [(0, .ref (ad 0)), (2, .int x2), (3, .int x3), (4, .int y4), (5, .int y5), (6, .int y6)] []) → G_X8_views p l e s m args below meth c E ad S r0 D0 M 44 C M [(0, .ref (ad 0)), (2, .int x2), (3, .int x3), (4, .int x4), (5, .int x5), (6, .int x6)] [] := by
  intro n
  induction n with
  | zero => exact fun _ _ _ o h => (lp_zero h).elim
  | succ n ih =>
    intro x4 x5 x6 o h K
    obtain ⟨o1, hb, h2⟩ := lp_some h
    replace hb : f_X8_views_l44 N S C  x2 x3 x4 x5 x6 = some o1 := hb
    clear h
    have Kc : ∀ (y4 : Int32) (y5 : Int32) (y6 : Int32), o1 = Sum.inl (y4, y5, y6) → G_X8_views p l e s m args below meth c E ad S r0 D0 M 44 C M [(0, .ref (ad 0)), (2, .int x2), (3, .int x3), (4, .int y4), (5, .int y5), (6, .int y6)] [] := fun y4 y5 y6 e1 => by
      subst e1
      exact ih y4 y5 y6 o h2 K
    have Ke : ∀ (y4 : Int32) (y5 : Int32) (y6 : Int32), o1 = Sum.inr ((y4, y5, y6)) → G_X8_views p l e s m args below meth c E ad S r0 D0 M 91 C M [(0, .ref (ad 0)), (2, .int x2), (3, .int x3), (4, .int y4), (5, .int y5), (6, .int y6)] [] := fun y4 y5 y6 e1 => by
      subst e1
      exact K y4 y5 y6 (sm_inj (α := (Int32 × Int32 × Int32)) h2).symm
    clear ih K h2
    unfold f_X8_views_l44 at hb
    have h := hb
    clear hb
    refine wg_iload X 5 dX8_views_44 rfl ?_
    refine wg_if_lt X 91 dX8_views_46 (by decide) (fun c10 => ?_) (fun c10 => ?_)
    · have h := if_t c10 h
      exact Ke x4 x5 x6 (sm_inj h).symm
    · have h := if_f c10 h
      refine wg_iload X 5 dX8_views_49 rfl ?_
      obtain ⟨r12, h11, h⟩ := bd_some h
      refine wg_callSi (As := [.int x6]) (rest := []) X (c_J6_bitCount_0f7a4 l E ad S C M x6  h11) T_yJ6_bitCount_0f7a4 k_693 dX8_views_51 rfl rfl (Nat.le_of_ble_eq_true rfl) ⟨Nat.le_of_ble_eq_true rfl, Nat.le_of_ble_eq_true rfl⟩ ⟨Nat.zero_le _, Nat.zero_le _⟩ ?_
      refine wg_iload_n X 1 dX8_views_54 rfl rfl ?_
      refine wg_icmp_ne X 67 dX8_views_55 (by decide) (fun c13 => ?_) (fun c13 => ?_)
      · have h := if_f c13 h
        refine wg_iconst (v := -1) X dX8_views_67 (by decide) ?_
        exact J_X8_views_j68l44 X hr hS r0 D0 M N  C  x2 x3 x4 x5 x6 (-1 : Int32)  _ Kc Ke h
      · have h := if_t c13 h
        refine wg_aload_n X 0 dX8_views_58 rfl rfl ?_
        refine wg_iload X 5 dX8_views_59 rfl ?_
        obtain ⟨r20, h19, h⟩ := bd_some h
        refine wg_callVi (As := [.int x6]) (rest := []) X (c_X8_priceTogether l E ad S hS N C M x6  h19) T_yX8_priceTogether k_785 cl8 (SCi hS 0 8 rfl) dX8_views_61 rfl rfl (Nat.le_of_ble_eq_true rfl) ⟨Nat.le_of_ble_eq_true rfl, Nat.le_of_ble_eq_true rfl⟩ ⟨Nat.zero_le _, Nat.zero_le _⟩ ?_
        refine wg_goto X 68 dX8_views_64 (by decide) ?_
        exact J_X8_views_j68l44 X hr hS r0 D0 M N  C  x2 x3 x4 x5 x6 r20  _ Kc Ke h
set_option maxHeartbeats 4000000 in
set_option maxRecDepth 100000 in
theorem c_X8_views (l : Launch) (E : wg_Ev) (ad : Nat → Nat) (S : wg_Sh) (hS : wg_SC S) (N : Nat) (C : wg_C) (M : wg_M) (p1 : Int32) (p2 : Int32) (p3 : Int32)  {r0 : Int32} {D0 : wg_C} (h : f_X8_views N S C p1 p2 p3 = some (r0, D0)) : wg_Ci l yX8_views cX8_views 8 (some .int) 5 119 E ad S C M [.ref (ad 0), .int p1, .int p2, .int p3] r0 D0 M := by
  refine wg_start (own := RX8) (by decide +kernel) rfl (Nat.le_of_ble_eq_true rfl) ?_
  intro p e s m below meth c X hr hnm
  refine wg_lv (lv' := [(0, .ref (ad 0)), (1, .int p1), (2, .int p2), (3, .int p3)]) rfl ?_
  unfold f_X8_views at h
  refine wg_iload_n X 1 dX8_views_0 rfl rfl ?_
  obtain ⟨r2, h1, h⟩ := bd_some h
  refine wg_callSi (As := [.int p1]) (rest := []) X (c_X8_isDay l E ad S C M p1  h1) T_yX8_isDay k_517 dX8_views_1 rfl rfl (Nat.le_of_ble_eq_true rfl) ⟨Nat.le_of_ble_eq_true rfl, Nat.le_of_ble_eq_true rfl⟩ ⟨Nat.zero_le _, Nat.zero_le _⟩ ?_
  refine wg_if_eq X 25 dX8_views_4 (by decide) (fun c3 => ?_) (fun c3 => ?_)
  · have h := if_t c3 h
    refine wg_bipush (v := -2) X dX8_views_25 (by decide) ?_
    exact wg_iret X ⟨(Prod.mk.inj (sm_inj h)).1, (Prod.mk.inj (sm_inj h)).2, rfl⟩ hr dX8_views_27
  · have h := if_f c3 h
    refine wg_iload_n X 2 dX8_views_7 rfl rfl ?_
    refine wg_if_lt X 25 dX8_views_8 (by decide) (fun c4 => ?_) (fun c4 => ?_)
    · have h := if_t c4 h
      refine wg_bipush (v := -2) X dX8_views_25 (by decide) ?_
      exact wg_iret X ⟨(Prod.mk.inj (sm_inj h)).1, (Prod.mk.inj (sm_inj h)).2, rfl⟩ hr dX8_views_27
    · have h := if_f c4 h
      refine wg_iload_n X 2 dX8_views_11 rfl rfl ?_
      refine wg_iconst (v := 4) X dX8_views_12 (by decide) ?_
      refine wg_icmp_gt X 25 dX8_views_13 (by decide) (fun c5 => ?_) (fun c5 => ?_)
      · have h := if_t c5 h
        refine wg_bipush (v := -2) X dX8_views_25 (by decide) ?_
        exact wg_iret X ⟨(Prod.mk.inj (sm_inj h)).1, (Prod.mk.inj (sm_inj h)).2, rfl⟩ hr dX8_views_27
      · have h := if_f c5 h
        refine wg_iload_n X 3 dX8_views_16 rfl rfl ?_
        refine wg_if_lt X 25 dX8_views_17 (by decide) (fun c6 => ?_) (fun c6 => ?_)
        · have h := if_t c6 h
          refine wg_bipush (v := -2) X dX8_views_25 (by decide) ?_
          exact wg_iret X ⟨(Prod.mk.inj (sm_inj h)).1, (Prod.mk.inj (sm_inj h)).2, rfl⟩ hr dX8_views_27
        · have h := if_f c6 h
          refine wg_iload_n X 3 dX8_views_20 rfl rfl ?_
          refine wg_iconst (v := 1) X dX8_views_21 (by decide) ?_
          refine wg_icmp_le X 28 dX8_views_22 (by decide) (fun c7 => ?_) (fun c7 => ?_)
          · have h := if_t c7 h
            refine wg_aload_n X 0 dX8_views_28 rfl rfl ?_
            refine wg_iload_n X 1 dX8_views_29 rfl rfl ?_
            obtain ⟨C9, h8, h⟩ := bd_some h
            refine wg_callVv (As := [.int p1]) (rest := []) X (c_X8_fillPrices l E ad S hS N C M p1  h8) T_yX8_fillPrices k_781 cl8 (SCi hS 0 8 rfl) dX8_views_30 rfl rfl (Nat.le_of_ble_eq_true rfl) ⟨Nat.le_of_ble_eq_true rfl, Nat.le_of_ble_eq_true rfl⟩ ⟨Nat.zero_le _, Nat.zero_le _⟩ ?_
            refine wg_iconst (v := -1) X dX8_views_33 (by decide) ?_
            refine wg_istore (lv' := [(4, .int (-1 : Int32)), (0, .ref (ad 0)), (1, .int p1), (2, .int p2), (3, .int p3)]) X dX8_views_34 rfl (by decide) rfl ?_
            refine wg_iconst (v := 0) X dX8_views_36 (by decide) ?_
            refine wg_istore (lv' := [(5, .int (0 : Int32)), (4, .int (-1 : Int32)), (0, .ref (ad 0)), (1, .int p1), (2, .int p2), (3, .int p3)]) X dX8_views_37 rfl (by decide) rfl ?_
            refine wg_sipush (v := 255) X dX8_views_39 (by decide) ?_
            refine wg_istore (lv' := [(6, .int (255 : Int32)), (5, .int (0 : Int32)), (4, .int (-1 : Int32)), (0, .ref (ad 0)), (1, .int p1), (2, .int p2), (3, .int p3)]) X dX8_views_42 rfl (by decide) rfl ?_
            obtain ⟨o24, h25, h⟩ := bd3_o h
            refine wg_pick [3, 5, 6, 2, 1, 0] (lv' := [(0, .ref (ad 0)), (2, .int p2), (3, .int p3), (4, .int (-1 : Int32)), (5, .int (0 : Int32)), (6, .int (255 : Int32))]) rfl ?_
            refine L_X8_views_l44 X hr hS r0 D0 M N  C9  p2 p3  N (-1 : Int32) (0 : Int32) (255 : Int32) o24 h25 (fun v21 v22 v23 e27 => ?_)
            · subst o24
              replace h := bd3_in h
              refine wg_iload_n X 2 dX8_views_91 rfl rfl ?_
              refine wg_if_eq X 101 dX8_views_92 (by decide) (fun c28 => ?_) (fun c28 => ?_)
              · have h := if_t c28 h
                refine wg_iload X 3 dX8_views_101 rfl ?_
                refine wg_goto X 111 dX8_views_103 (by decide) ?_
                exact wg_iret X ⟨(Prod.mk.inj (sm_inj h)).1, (Prod.mk.inj (sm_inj h)).2, rfl⟩ hr dX8_views_111
              · have h := if_f c28 h
                refine wg_iload X 3 dX8_views_95 rfl ?_
                refine wg_iconst (v := -1) X dX8_views_97 (by decide) ?_
                refine wg_icmp_ne X 106 dX8_views_98 (by decide) (fun c29 => ?_) (fun c29 => ?_)
                · have h := if_f c29 h
                  refine wg_iload X 4 dX8_views_106 rfl ?_
                  obtain ⟨r31, h30, h⟩ := bd_some h
                  refine wg_callSi (As := [.int v22]) (rest := []) X (c_X8_digitsOf l E ad S N C9 M v22  h30) T_yX8_digitsOf k_792 dX8_views_108 rfl rfl (Nat.le_of_ble_eq_true rfl) ⟨Nat.le_of_ble_eq_true rfl, Nat.le_of_ble_eq_true rfl⟩ ⟨Nat.zero_le _, Nat.zero_le _⟩ ?_
                  exact wg_iret X ⟨(Prod.mk.inj (sm_inj h)).1, (Prod.mk.inj (sm_inj h)).2, rfl⟩ hr dX8_views_111
                · have h := if_t c29 h
                  refine wg_iload X 3 dX8_views_101 rfl ?_
                  refine wg_goto X 111 dX8_views_103 (by decide) ?_
                  exact wg_iret X ⟨(Prod.mk.inj (sm_inj h)).1, (Prod.mk.inj (sm_inj h)).2, rfl⟩ hr dX8_views_111
          · have h := if_f c7 h
            refine wg_bipush (v := -2) X dX8_views_25 (by decide) ?_
            exact wg_iret X ⟨(Prod.mk.inj (sm_inj h)).1, (Prod.mk.inj (sm_inj h)).2, rfl⟩ hr dX8_views_27
-- WindowsGive.drawnWater(II)I (('c', 0), 'i', 'i')
def f_X8_drawnWater_l5 (N : Nat) (S : wg_Sh)  (x1 : Int32) (C : wg_C) (x3 : Int32) (x4 : Int32) : Option ((wg_C × Int32 × Int32) ⊕ (wg_C × Int32 × Int32)) :=
  if (32 : Int32) ≤ x4 then (
    some (.inr (C, x3, x4)))
  else (
    lt_ ((x3 * (1103515245 : Int32)) + (12345 : Int32)) fun v2 =>
    ck (inb x4 32) <|
    lt_ (wg_up C 42 x4.toNatClampNeg (((v2.toUInt32 >>> ((9 : Int32).toUInt32 &&& Int32.toUInt32 31)).toInt32) - ((v2.toUInt32 >>> ((9 : Int32).toUInt32 &&& Int32.toUInt32 31)).toInt32) / (10 : Int32) * (10 : Int32))) fun C5 =>
    lt_ (x4 + (1 : Int32)) fun v7 =>
    some (.inl (C5, v2, v7)))
def f_X8_drawnWater (N : Nat) (S : wg_Sh) (C : wg_C) (p1 : Int32) (p2 : Int32) : Option (Int32 × wg_C) :=
  bd3 (lp (fun o => f_X8_drawnWater_l5 N S  p1 o.1 o.2.1 o.2.2) N (C, p2, (0 : Int32))) fun C9 v10 v11 =>
  bd2 (f_X8_flood N S C9 p1 42 32) fun r17 C18 =>
  some (r17, C18)
abbrev G_X8_drawnWater (p : Program) (l : Launch) (e : Env) (s : State) (m : MethodId) (args : Array Value) (below : List Frame) (meth : Method) (c : Code) (E : wg_Ev) (ad : Nat → Nat) (S : wg_Sh) (r0 : Int32) (C0 : wg_C) (M0 : wg_M) (pc : Nat) (C : wg_C) (M : wg_M) (lv : List (Nat × Value)) (st : List Value) : Prop := wg_G p l e (wg_Rm 5 123) s m args below meth c (MQ below (wg_Qi E ad S r0 C0 M0) args s 0 0 (wg_A E)) 5 E ad S 0 0 pc C M lv st
set_option maxHeartbeats 4000000 in
set_option maxRecDepth 100000 in
theorem L_X8_drawnWater_l5 {p : Program} {l : Launch} {e : Env} {s : State} {m : MethodId} {args : Array Value} {below : List Frame} {meth : Method} {c : Code} {E : wg_Ev} {ad : Nat → Nat} {S : wg_Sh} (X : wg_X p s m args meth c cX8_drawnWater 5 RX8 E) (hr : meth.sig.returnType = (some .int)) (hS : wg_SC S) (r0 : Int32) (D0 : wg_C) (M : wg_M) (N : Nat)   (x1 : Int32)  : ∀ (n : Nat) (C : wg_C) (x3 : Int32) (x4 : Int32) (o : (wg_C × Int32 × Int32)), lp (fun o => f_X8_drawnWater_l5 N S  x1 o.1 o.2.1 o.2.2) n (C, x3, x4) = some o → (∀ (Dy : wg_C) (y3 : Int32) (y4 : Int32), o = (Dy, y3, y4) → G_X8_drawnWater p l e s m args below meth c E ad S r0 D0 M 42 Dy M [(0, .ref (ad 0)), (1, .int x1), (3, .int y3), (4, .int y4)] []) → G_X8_drawnWater p l e s m args below meth c E ad S r0 D0 M 5 C M [(0, .ref (ad 0)), (1, .int x1), (3, .int x3), (4, .int x4)] [] := by
  intro n
  induction n with
  | zero => exact fun _ _ _ o h => (lp_zero h).elim
  | succ n ih =>
    intro C x3 x4 o h K
    obtain ⟨o1, hb, h2⟩ := lp_some h
    replace hb : f_X8_drawnWater_l5 N S  x1 C x3 x4 = some o1 := hb
    clear h
    have Kc : ∀ (Dy : wg_C) (y3 : Int32) (y4 : Int32), o1 = Sum.inl (Dy, y3, y4) → G_X8_drawnWater p l e s m args below meth c E ad S r0 D0 M 5 Dy M [(0, .ref (ad 0)), (1, .int x1), (3, .int y3), (4, .int y4)] [] := fun Dy y3 y4 e1 => by
      subst e1
      exact ih Dy y3 y4 o h2 K
    have Ke : ∀ (Dy : wg_C) (y3 : Int32) (y4 : Int32), o1 = Sum.inr ((Dy, y3, y4)) → G_X8_drawnWater p l e s m args below meth c E ad S r0 D0 M 42 Dy M [(0, .ref (ad 0)), (1, .int x1), (3, .int y3), (4, .int y4)] [] := fun Dy y3 y4 e1 => by
      subst e1
      exact K Dy y3 y4 (sm_inj (α := (wg_C × Int32 × Int32)) h2).symm
    clear ih K h2
    unfold f_X8_drawnWater_l5 at hb
    have h := hb
    clear hb
    refine wg_iload X 3 dX8_drawnWater_5 rfl ?_
    refine wg_bipush (v := 32) X dX8_drawnWater_7 (by decide) ?_
    refine wg_icmp_ge X 42 dX8_drawnWater_9 (by decide) (fun c1 => ?_) (fun c1 => ?_)
    · have h := if_t c1 h
      exact Ke C x3 x4 (sm_inj h).symm
    · have h := if_f c1 h
      refine wg_iload_n X 2 dX8_drawnWater_12 rfl rfl ?_
      refine wg_ldcw (v := 1103515245) X dX8_drawnWater_13 k_803 ?_
      refine wg_imul X dX8_drawnWater_16 ?_
      refine wg_sipush (v := 12345) X dX8_drawnWater_17 (by decide) ?_
      refine wg_iadd X dX8_drawnWater_20 ?_
      obtain ⟨v2, e3, h⟩ := lt_some h
      refine wg_istore_n (lv' := [(3, .int v2), (0, .ref (ad 0)), (1, .int x1), (4, .int x4)]) X dX8_drawnWater_21 rfl e3 (by decide) rfl ?_
      refine wg_aload_n X 1 dX8_drawnWater_22 rfl rfl ?_
      refine wg_getR (b := 42) X cl8 (SCi hS 0 8 rfl) 10 (by decide) dX8_drawnWater_23 k_482 rfl (SCr hS 0 10 42 rfl) ?_
      refine wg_iload X 3 dX8_drawnWater_26 rfl ?_
      refine wg_iload_n X 0 dX8_drawnWater_28 rfl rfl ?_
      refine wg_bipush (v := 9) X dX8_drawnWater_29 (by decide) ?_
      refine wg_iushr X dX8_drawnWater_31 ?_
      refine wg_bipush (v := 10) X dX8_drawnWater_32 (by decide) ?_
      refine wg_irem X dX8_drawnWater_34 (by decide) ?_
      obtain ⟨z4, h⟩ := ck_some h
      obtain ⟨C5, e6, h⟩ := lt_some h
      refine wg_iaste X (SCi hS 42 10 rfl) (SCl hS 42 32 rfl) z4 dX8_drawnWater_35 e6 ?_
      obtain ⟨v7, e8, h⟩ := lt_some h
      refine wg_iinc (lv' := [(4, .int v7), (3, .int v2), (0, .ref (ad 0)), (1, .int x1)]) X 3 dX8_drawnWater_36 rfl e8 (by decide) rfl ?_
      refine wg_goto X 5 dX8_drawnWater_39 (by decide) ?_
      refine wg_pick [2, 3, 1, 0] (lv' := [(0, .ref (ad 0)), (1, .int x1), (3, .int v2), (4, .int v7)]) rfl ?_
      exact Kc C5 v2 v7 (sm_inj h).symm
set_option maxHeartbeats 4000000 in
set_option maxRecDepth 100000 in
theorem c_X8_drawnWater (l : Launch) (E : wg_Ev) (ad : Nat → Nat) (S : wg_Sh) (hS : wg_SC S) (N : Nat) (C : wg_C) (M : wg_M) (p1 : Int32) (p2 : Int32)  {r0 : Int32} {D0 : wg_C} (h : f_X8_drawnWater N S C p1 p2 = some (r0, D0)) : wg_Ci l yX8_drawnWater cX8_drawnWater 5 (some .int) 5 123 E ad S C M [.ref (ad 0), .int p1, .int p2] r0 D0 M := by
  refine wg_start (own := RX8) (by decide +kernel) rfl (Nat.le_of_ble_eq_true rfl) ?_
  intro p e s m below meth c X hr hnm
  refine wg_lv (lv' := [(0, .ref (ad 0)), (1, .int p1), (2, .int p2)]) rfl ?_
  unfold f_X8_drawnWater at h
  refine wg_iload_n X 2 dX8_drawnWater_0 rfl rfl ?_
  refine wg_istore_n (lv' := [(3, .int p2), (0, .ref (ad 0)), (1, .int p1), (2, .int p2)]) X dX8_drawnWater_1 rfl rfl (by decide) rfl ?_
  refine wg_iconst (v := 0) X dX8_drawnWater_2 (by decide) ?_
  refine wg_istore (lv' := [(4, .int (0 : Int32)), (3, .int p2), (0, .ref (ad 0)), (1, .int p1), (2, .int p2)]) X dX8_drawnWater_3 rfl (by decide) rfl ?_
  obtain ⟨o12, h13, h⟩ := bd3_o h
  refine wg_pick [2, 3, 1, 0] (lv' := [(0, .ref (ad 0)), (1, .int p1), (3, .int p2), (4, .int (0 : Int32))]) rfl ?_
  refine L_X8_drawnWater_l5 X hr hS r0 D0 M N   p1  N C p2 (0 : Int32) o12 h13 (fun C9 v10 v11 e15 => ?_)
  · subst o12
    replace h := bd3_in h
    refine wg_aload_n X 0 dX8_drawnWater_42 rfl rfl ?_
    refine wg_iload_n X 1 dX8_drawnWater_43 rfl rfl ?_
    refine wg_aload_n X 0 dX8_drawnWater_44 rfl rfl ?_
    refine wg_getR (b := 42) X cl8 (SCi hS 0 8 rfl) 10 (by decide) dX8_drawnWater_45 k_482 rfl (SCr hS 0 10 42 rfl) ?_
    obtain ⟨r17, C18, h16, h⟩ := bd2_some h
    refine wg_callVi (As := [.int p1, .ref (ad 42)]) (rest := []) X (c_X8_flood l E ad S hS N C9 M p1 42 32 ⟨(SCi hS 42 10 rfl), (SCl hS 42 32 rfl)⟩ h16) T_yX8_flood k_766 cl8 (SCi hS 0 8 rfl) dX8_drawnWater_48 rfl rfl (Nat.le_of_ble_eq_true rfl) ⟨Nat.le_of_ble_eq_true rfl, Nat.le_of_ble_eq_true rfl⟩ ⟨Nat.zero_le _, Nat.zero_le _⟩ ?_
    exact wg_iret X ⟨(Prod.mk.inj (sm_inj h)).1, (Prod.mk.inj (sm_inj h)).2, rfl⟩ hr dX8_drawnWater_51
-- WindowsGive.drawn(II)I (('c', 0), 'i', 'i')
def f_X8_drawn (N : Nat) (S : wg_Sh) (C : wg_C) (p1 : Int32) (p2 : Int32) : Option (Int32 × wg_C) :=
  bd (f_X8_isRoom p1) fun r2 =>
  if r2 = 0 then (
    some ((-2 : Int32), C))
  else (
    bd2 (f_X8_drawnWater N S C p1 p2) fun r5 C6 =>
    some (r5, C6))
set_option maxHeartbeats 4000000 in
set_option maxRecDepth 100000 in
theorem c_X8_drawn (l : Launch) (E : wg_Ev) (ad : Nat → Nat) (S : wg_Sh) (hS : wg_SC S) (N : Nat) (C : wg_C) (M : wg_M) (p1 : Int32) (p2 : Int32)  {r0 : Int32} {D0 : wg_C} (h : f_X8_drawn N S C p1 p2 = some (r0, D0)) : wg_Ci l yX8_drawn cX8_drawn 3 (some .int) 6 147 E ad S C M [.ref (ad 0), .int p1, .int p2] r0 D0 M := by
  refine wg_start (own := RX8) (by decide +kernel) rfl (Nat.le_of_ble_eq_true rfl) ?_
  intro p e s m below meth c X hr hnm
  refine wg_lv (lv' := [(0, .ref (ad 0)), (1, .int p1), (2, .int p2)]) rfl ?_
  unfold f_X8_drawn at h
  refine wg_iload_n X 1 dX8_drawn_0 rfl rfl ?_
  obtain ⟨r2, h1, h⟩ := bd_some h
  refine wg_callSi (As := [.int p1]) (rest := []) X (c_X8_isRoom l E ad S C M p1  h1) T_yX8_isRoom k_535 dX8_drawn_1 rfl rfl (Nat.le_of_ble_eq_true rfl) ⟨Nat.le_of_ble_eq_true rfl, Nat.le_of_ble_eq_true rfl⟩ ⟨Nat.zero_le _, Nat.zero_le _⟩ ?_
  refine wg_if_ne X 10 dX8_drawn_4 (by decide) (fun c3 => ?_) (fun c3 => ?_)
  · have h := if_f c3 h
    refine wg_aload_n X 0 dX8_drawn_10 rfl rfl ?_
    refine wg_iload_n X 1 dX8_drawn_11 rfl rfl ?_
    refine wg_iload_n X 2 dX8_drawn_12 rfl rfl ?_
    obtain ⟨r5, C6, h4, h⟩ := bd2_some h
    refine wg_callVi (As := [.int p1, .int p2]) (rest := []) X (c_X8_drawnWater l E ad S hS N C M p1 p2  h4) T_yX8_drawnWater k_799 cl8 (SCi hS 0 8 rfl) dX8_drawn_13 rfl rfl (Nat.le_of_ble_eq_true rfl) ⟨Nat.le_of_ble_eq_true rfl, Nat.le_of_ble_eq_true rfl⟩ ⟨Nat.zero_le _, Nat.zero_le _⟩ ?_
    exact wg_iret X ⟨(Prod.mk.inj (sm_inj h)).1, (Prod.mk.inj (sm_inj h)).2, rfl⟩ hr dX8_drawn_16
  · have h := if_t c3 h
    refine wg_bipush (v := -2) X dX8_drawn_7 (by decide) ?_
    exact wg_iret X ⟨(Prod.mk.inj (sm_inj h)).1, (Prod.mk.inj (sm_inj h)).2, rfl⟩ hr dX8_drawn_9
-- WindowsGive.commonDivisor(II)I ('i', 'i')
def f_X8_commonDivisor_l7 (N : Nat)   (x2 : Int32) (x3 : Int32) (x4 : Int32) : Option ((Int32 × Int32 × Int32) ⊕ (Int32 × Int32 × Int32)) :=
  if (64 : Int32) ≤ x4 then (
    some (.inr (x2, x3, x4)))
  else (
    if x3 = 0 then (
      some (.inr (x2, x3, x4)))
    else (
      ck (¬ x3 = 0) <|
      lt_ (x2 - x2 / x3 * x3) fun v4 =>
      lt_ (x4 + (1 : Int32)) fun v6 =>
      some (.inl (x3, v4, v6))))
def f_X8_commonDivisor (N : Nat) (p0 : Int32) (p1 : Int32) : Option Int32 :=
  bd3 (lp (fun o => f_X8_commonDivisor_l7 N   o.1 o.2.1 o.2.2) N (p0, p1, (0 : Int32))) fun v8 v9 v10 =>
  if (1 : Int32) ≤ v8 then (
    some v8)
  else (
    some (1 : Int32))
abbrev G_X8_commonDivisor (p : Program) (l : Launch) (e : Env) (s : State) (m : MethodId) (args : Array Value) (below : List Frame) (meth : Method) (c : Code) (E : wg_Ev) (ad : Nat → Nat) (S : wg_Sh) (r0 : Int32) (C0 : wg_C) (M0 : wg_M) (pc : Nat) (C : wg_C) (M : wg_M) (lv : List (Nat × Value)) (st : List Value) : Prop := wg_G p l e (wg_Rm 0 0) s m args below meth c (MQ below (wg_Qi E ad S r0 C0 M0) args s 0 0 (wg_A E)) 6 E ad S 0 0 pc C M lv st
set_option maxHeartbeats 4000000 in
set_option maxRecDepth 100000 in
theorem L_X8_commonDivisor_l7 {p : Program} {l : Launch} {e : Env} {s : State} {m : MethodId} {args : Array Value} {below : List Frame} {meth : Method} {c : Code} {E : wg_Ev} {ad : Nat → Nat} {S : wg_Sh} (X : wg_X p s m args meth c cX8_commonDivisor 6 RX8 E) (hr : meth.sig.returnType = (some .int)) (r0 : Int32) (C : wg_C) (M : wg_M) (N : Nat)     : ∀ (n : Nat) (x2 : Int32) (x3 : Int32) (x4 : Int32) (o : (Int32 × Int32 × Int32)), lp (fun o => f_X8_commonDivisor_l7 N   o.1 o.2.1 o.2.2) n (x2, x3, x4) = some o → (∀ (y2 : Int32) (y3 : Int32) (y4 : Int32), o = (y2, y3, y4) → G_X8_commonDivisor p l e s m args below meth c E ad S r0 C M 34 C M [(2, .int y2), (3, .int y3), (4, .int y4)] []) → G_X8_commonDivisor p l e s m args below meth c E ad S r0 C M 7 C M [(2, .int x2), (3, .int x3), (4, .int x4)] [] := by
  intro n
  induction n with
  | zero => exact fun _ _ _ o h => (lp_zero h).elim
  | succ n ih =>
    intro x2 x3 x4 o h K
    obtain ⟨o1, hb, h2⟩ := lp_some h
    replace hb : f_X8_commonDivisor_l7 N   x2 x3 x4 = some o1 := hb
    clear h
    have Kc : ∀ (y2 : Int32) (y3 : Int32) (y4 : Int32), o1 = Sum.inl (y2, y3, y4) → G_X8_commonDivisor p l e s m args below meth c E ad S r0 C M 7 C M [(2, .int y2), (3, .int y3), (4, .int y4)] [] := fun y2 y3 y4 e1 => by
      subst e1
      exact ih y2 y3 y4 o h2 K
    have Ke : ∀ (y2 : Int32) (y3 : Int32) (y4 : Int32), o1 = Sum.inr ((y2, y3, y4)) → G_X8_commonDivisor p l e s m args below meth c E ad S r0 C M 34 C M [(2, .int y2), (3, .int y3), (4, .int y4)] [] := fun y2 y3 y4 e1 => by
      subst e1
      exact K y2 y3 y4 (sm_inj (α := (Int32 × Int32 × Int32)) h2).symm
    clear ih K h2
    unfold f_X8_commonDivisor_l7 at hb
    have h := hb
    clear hb
    refine wg_iload X 2 dX8_commonDivisor_7 rfl ?_
    refine wg_bipush (v := 64) X dX8_commonDivisor_9 (by decide) ?_
    refine wg_icmp_ge X 34 dX8_commonDivisor_11 (by decide) (fun c1 => ?_) (fun c1 => ?_)
    · have h := if_t c1 h
      exact Ke x2 x3 x4 (sm_inj h).symm
    · have h := if_f c1 h
      refine wg_iload_n X 1 dX8_commonDivisor_14 rfl rfl ?_
      refine wg_if_eq X 34 dX8_commonDivisor_15 (by decide) (fun c2 => ?_) (fun c2 => ?_)
      · have h := if_t c2 h
        exact Ke x2 x3 x4 (sm_inj h).symm
      · have h := if_f c2 h
        refine wg_iload_n X 0 dX8_commonDivisor_18 rfl rfl ?_
        refine wg_iload_n X 1 dX8_commonDivisor_19 rfl rfl ?_
        obtain ⟨z3, h⟩ := ck_some h
        refine wg_irem X dX8_commonDivisor_20 z3 ?_
        obtain ⟨v4, e5, h⟩ := lt_some h
        refine wg_istore (lv' := [(5, .int v4), (2, .int x2), (3, .int x3), (4, .int x4)]) X dX8_commonDivisor_21 e5 (by decide) rfl ?_
        refine wg_iload_n X 2 dX8_commonDivisor_23 rfl rfl ?_
        refine wg_istore_n (lv' := [(2, .int x3), (5, .int v4), (3, .int x3), (4, .int x4)]) X dX8_commonDivisor_24 rfl rfl (by decide) rfl ?_
        refine wg_iload X 1 dX8_commonDivisor_25 rfl ?_
        refine wg_istore_n (lv' := [(3, .int v4), (2, .int x3), (5, .int v4), (4, .int x4)]) X dX8_commonDivisor_27 rfl rfl (by decide) rfl ?_
        obtain ⟨v6, e7, h⟩ := lt_some h
        refine wg_iinc (lv' := [(4, .int v6), (3, .int v4), (2, .int x3), (5, .int v4)]) X 3 dX8_commonDivisor_28 rfl e7 (by decide) rfl ?_
        refine wg_goto X 7 dX8_commonDivisor_31 (by decide) ?_
        refine wg_pick [2, 1, 0] (lv' := [(2, .int x3), (3, .int v4), (4, .int v6)]) rfl ?_
        exact Kc x3 v4 v6 (sm_inj h).symm
set_option maxHeartbeats 4000000 in
set_option maxRecDepth 100000 in
theorem c_X8_commonDivisor (l : Launch) (E : wg_Ev) (ad : Nat → Nat) (S : wg_Sh) (N : Nat) (C : wg_C) (M : wg_M) (p0 : Int32) (p1 : Int32)  {r0 : Int32} (h : f_X8_commonDivisor N p0 p1 = some r0) : wg_Ci l yX8_commonDivisor cX8_commonDivisor 6 (some .int) 0 0 E ad S C M [.int p0, .int p1] r0 C M := by
  refine wg_start (own := RX8) (by decide +kernel) rfl (Nat.le_of_ble_eq_true rfl) ?_
  intro p e s m below meth c X hr hnm
  refine wg_lv (lv' := [(0, .int p0), (1, .int p1)]) rfl ?_
  unfold f_X8_commonDivisor at h
  refine wg_iload_n X 0 dX8_commonDivisor_0 rfl rfl ?_
  refine wg_istore_n (lv' := [(2, .int p0), (0, .int p0), (1, .int p1)]) X dX8_commonDivisor_1 rfl rfl (by decide) rfl ?_
  refine wg_iload_n X 2 dX8_commonDivisor_2 rfl rfl ?_
  refine wg_istore_n (lv' := [(3, .int p1), (2, .int p0), (0, .int p0), (1, .int p1)]) X dX8_commonDivisor_3 rfl rfl (by decide) rfl ?_
  refine wg_iconst (v := 0) X dX8_commonDivisor_4 (by decide) ?_
  refine wg_istore (lv' := [(4, .int (0 : Int32)), (3, .int p1), (2, .int p0), (0, .int p0), (1, .int p1)]) X dX8_commonDivisor_5 rfl (by decide) rfl ?_
  obtain ⟨o11, h12, h⟩ := bd3_o h
  refine wg_pick [2, 1, 0] (lv' := [(2, .int p0), (3, .int p1), (4, .int (0 : Int32))]) rfl ?_
  refine L_X8_commonDivisor_l7 X hr r0 C M N     N p0 p1 (0 : Int32) o11 h12 (fun v8 v9 v10 e14 => ?_)
  · subst o11
    replace h := bd3_in h
    refine wg_iload_n X 0 dX8_commonDivisor_34 rfl rfl ?_
    refine wg_iconst (v := 1) X dX8_commonDivisor_35 (by decide) ?_
    refine wg_icmp_ge X 43 dX8_commonDivisor_36 (by decide) (fun c15 => ?_) (fun c15 => ?_)
    · have h := if_t c15 h
      refine wg_iload_n X 0 dX8_commonDivisor_43 rfl rfl ?_
      exact wg_iret X ⟨(sm_inj h), rfl, rfl⟩ hr dX8_commonDivisor_44
    · have h := if_f c15 h
      refine wg_iconst (v := 1) X dX8_commonDivisor_39 (by decide) ?_
      refine wg_goto X 44 dX8_commonDivisor_40 (by decide) ?_
      exact wg_iret X ⟨(sm_inj h), rfl, rfl⟩ hr dX8_commonDivisor_44
-- WindowsGive.chance(IIIII)J (('c', 0), 'i', 'i', 'i', 'i', 'i')
def f_X8_chance_l56 (N : Nat) (S : wg_Sh)  (x1 : Int32) (x2 : Int32) (x3 : Int32) (x4 : Int32) (x5 : Int32) (C : wg_C) (x6 : Int32) (x7 : Int32) : Option ((wg_C × Int32 × Int32) ⊕ (wg_C × Int32 × Int32)) :=
  if x3 ≤ x7 then (
    some (.inr (C, x6, x7)))
  else (
    bd2 (f_X8_drawnWater N S C x1 (x2 + x7)) fun r12 C13 =>
    if x4 < r12 then (
      lt_ (x7 + (1 : Int32)) fun v15 =>
      some (.inl (C13, x6, v15)))
    else (
      lt_ (x6 + (1 : Int32)) fun v17 =>
      lt_ (x7 + (1 : Int32)) fun v19 =>
      some (.inl (C13, v17, v19))))
def f_X8_chance (N : Nat) (S : wg_Sh) (C : wg_C) (p1 : Int32) (p2 : Int32) (p3 : Int32) (p4 : Int32) (p5 : Int32) : Option (Int64 × wg_C) :=
  bd (f_X8_isRoom p1) fun r2 =>
  if r2 = 0 then (
    some ((-4611686018427387904 : Int64), C))
  else (
    if p3 < (1 : Int32) then (
      some ((-4611686018427387904 : Int64), C))
    else (
      if p3 ≤ (20 : Int32) then (
        if p4 < 0 then (
          some ((-4611686018427387904 : Int64), C))
        else (
          if (99999 : Int32) < p4 then (
            some ((-4611686018427387904 : Int64), C))
          else (
            if p5 < 0 then (
              some ((-4611686018427387904 : Int64), C))
            else (
              if p5 ≤ (1 : Int32) then (
                bd3 (lp (fun o => f_X8_chance_l56 N S  p1 p2 p3 p4 p5 o.1 o.2.1 o.2.2) N (C, (0 : Int32), (0 : Int32))) fun C21 v22 v23 =>
                bd (f_X8_commonDivisor N p3 v22) fun r29 =>
                if p5 = 0 then (
                  ck (¬ r29 = 0) <|
                  some (((v22 / r29).toInt64), C21))
                else (
                  ck (¬ r29 = 0) <|
                  some (((p3 / r29).toInt64), C21)))
              else (
                some ((-4611686018427387904 : Int64), C))))))
      else (
        some ((-4611686018427387904 : Int64), C))))
abbrev G_X8_chance (p : Program) (l : Launch) (e : Env) (s : State) (m : MethodId) (args : Array Value) (below : List Frame) (meth : Method) (c : Code) (E : wg_Ev) (ad : Nat → Nat) (S : wg_Sh) (r0 : Int64) (C0 : wg_C) (M0 : wg_M) (pc : Nat) (C : wg_C) (M : wg_M) (lv : List (Nat × Value)) (st : List Value) : Prop := wg_G p l e (wg_Rm 6 147) s m args below meth c (MQ below (wg_Ql E ad S r0 C0 M0) args s 0 0 (wg_A E)) 8 E ad S 0 0 pc C M lv st
set_option maxHeartbeats 4000000 in
set_option maxRecDepth 100000 in
theorem L_X8_chance_l56 {p : Program} {l : Launch} {e : Env} {s : State} {m : MethodId} {args : Array Value} {below : List Frame} {meth : Method} {c : Code} {E : wg_Ev} {ad : Nat → Nat} {S : wg_Sh} (X : wg_X p s m args meth c cX8_chance 8 RX8 E) (hr : meth.sig.returnType = (some .long)) (hS : wg_SC S) (r0 : Int64) (D0 : wg_C) (M : wg_M) (N : Nat)   (x1 : Int32) (x2 : Int32) (x3 : Int32) (x4 : Int32) (x5 : Int32)  : ∀ (n : Nat) (C : wg_C) (x6 : Int32) (x7 : Int32) (o : (wg_C × Int32 × Int32)), lp (fun o => f_X8_chance_l56 N S  x1 x2 x3 x4 x5 o.1 o.2.1 o.2.2) n (C, x6, x7) = some o → (∀ (Dy : wg_C) (y6 : Int32) (y7 : Int32), o = (Dy, y6, y7) → G_X8_chance p l e s m args below meth c E ad S r0 D0 M 85 Dy M [(0, .ref (ad 0)), (1, .int x1), (2, .int x2), (3, .int x3), (4, .int x4), (5, .int x5), (6, .int y6), (7, .int y7)] []) → G_X8_chance p l e s m args below meth c E ad S r0 D0 M 56 C M [(0, .ref (ad 0)), (1, .int x1), (2, .int x2), (3, .int x3), (4, .int x4), (5, .int x5), (6, .int x6), (7, .int x7)] [] := by
  intro n
  induction n with
  | zero => exact fun _ _ _ o h => (lp_zero h).elim
  | succ n ih =>
    intro C x6 x7 o h K
    obtain ⟨o1, hb, h2⟩ := lp_some h
    replace hb : f_X8_chance_l56 N S  x1 x2 x3 x4 x5 C x6 x7 = some o1 := hb
    clear h
    have Kc : ∀ (Dy : wg_C) (y6 : Int32) (y7 : Int32), o1 = Sum.inl (Dy, y6, y7) → G_X8_chance p l e s m args below meth c E ad S r0 D0 M 56 Dy M [(0, .ref (ad 0)), (1, .int x1), (2, .int x2), (3, .int x3), (4, .int x4), (5, .int x5), (6, .int y6), (7, .int y7)] [] := fun Dy y6 y7 e1 => by
      subst e1
      exact ih Dy y6 y7 o h2 K
    have Ke : ∀ (Dy : wg_C) (y6 : Int32) (y7 : Int32), o1 = Sum.inr ((Dy, y6, y7)) → G_X8_chance p l e s m args below meth c E ad S r0 D0 M 85 Dy M [(0, .ref (ad 0)), (1, .int x1), (2, .int x2), (3, .int x3), (4, .int x4), (5, .int x5), (6, .int y6), (7, .int y7)] [] := fun Dy y6 y7 e1 => by
      subst e1
      exact K Dy y6 y7 (sm_inj (α := (wg_C × Int32 × Int32)) h2).symm
    clear ih K h2
    unfold f_X8_chance_l56 at hb
    have h := hb
    clear hb
    refine wg_iload X 7 dX8_chance_56 rfl ?_
    refine wg_iload_n X 3 dX8_chance_58 rfl rfl ?_
    refine wg_icmp_ge X 85 dX8_chance_59 (by decide) (fun c10 => ?_) (fun c10 => ?_)
    · have h := if_t c10 h
      exact Ke C x6 x7 (sm_inj h).symm
    · have h := if_f c10 h
      refine wg_aload_n X 0 dX8_chance_62 rfl rfl ?_
      refine wg_iload_n X 1 dX8_chance_63 rfl rfl ?_
      refine wg_iload_n X 2 dX8_chance_64 rfl rfl ?_
      refine wg_iload X 7 dX8_chance_65 rfl ?_
      refine wg_iadd X dX8_chance_67 ?_
      obtain ⟨r12, C13, h11, h⟩ := bd2_some h
      refine wg_callVi (As := [.int x1, .int (x2 + x7)]) (rest := []) X (c_X8_drawnWater l E ad S hS N C M x1 (x2 + x7)  h11) T_yX8_drawnWater k_799 cl8 (SCi hS 0 8 rfl) dX8_chance_68 rfl rfl (Nat.le_of_ble_eq_true rfl) ⟨Nat.le_of_ble_eq_true rfl, Nat.le_of_ble_eq_true rfl⟩ ⟨Nat.zero_le _, Nat.zero_le _⟩ ?_
      refine wg_iload X 4 dX8_chance_71 rfl ?_
      refine wg_icmp_gt X 79 dX8_chance_73 (by decide) (fun c14 => ?_) (fun c14 => ?_)
      · have h := if_t c14 h
        obtain ⟨v15, e16, h⟩ := lt_some h
        refine wg_iinc (lv' := [(7, .int v15), (0, .ref (ad 0)), (1, .int x1), (2, .int x2), (3, .int x3), (4, .int x4), (5, .int x5), (6, .int x6)]) X 7 dX8_chance_79 rfl e16 (by decide) rfl ?_
        refine wg_goto X 56 dX8_chance_82 (by decide) ?_
        refine wg_pick [1, 2, 3, 4, 5, 6, 7, 0] (lv' := [(0, .ref (ad 0)), (1, .int x1), (2, .int x2), (3, .int x3), (4, .int x4), (5, .int x5), (6, .int x6), (7, .int v15)]) rfl ?_
        exact Kc C13 x6 v15 (sm_inj h).symm
      · have h := if_f c14 h
        obtain ⟨v17, e18, h⟩ := lt_some h
        refine wg_iinc (lv' := [(6, .int v17), (0, .ref (ad 0)), (1, .int x1), (2, .int x2), (3, .int x3), (4, .int x4), (5, .int x5), (7, .int x7)]) X 6 dX8_chance_76 rfl e18 (by decide) rfl ?_
        obtain ⟨v19, e20, h⟩ := lt_some h
        refine wg_iinc (lv' := [(7, .int v19), (6, .int v17), (0, .ref (ad 0)), (1, .int x1), (2, .int x2), (3, .int x3), (4, .int x4), (5, .int x5)]) X 7 dX8_chance_79 rfl e20 (by decide) rfl ?_
        refine wg_goto X 56 dX8_chance_82 (by decide) ?_
        refine wg_pick [2, 3, 4, 5, 6, 7, 1, 0] (lv' := [(0, .ref (ad 0)), (1, .int x1), (2, .int x2), (3, .int x3), (4, .int x4), (5, .int x5), (6, .int v17), (7, .int v19)]) rfl ?_
        exact Kc C13 v17 v19 (sm_inj h).symm
set_option maxHeartbeats 4000000 in
set_option maxRecDepth 100000 in
theorem c_X8_chance (l : Launch) (E : wg_Ev) (ad : Nat → Nat) (S : wg_Sh) (hS : wg_SC S) (N : Nat) (C : wg_C) (M : wg_M) (p1 : Int32) (p2 : Int32) (p3 : Int32) (p4 : Int32) (p5 : Int32)  {r0 : Int64} {D0 : wg_C} (h : f_X8_chance N S C p1 p2 p3 p4 p5 = some (r0, D0)) : wg_Cl l yX8_chance cX8_chance 8 (some .long) 6 147 E ad S C M [.ref (ad 0), .int p1, .int p2, .int p3, .int p4, .int p5] r0 D0 M := by
  refine wg_start (own := RX8) (by decide +kernel) rfl (Nat.le_of_ble_eq_true rfl) ?_
  intro p e s m below meth c X hr hnm
  refine wg_lv (lv' := [(0, .ref (ad 0)), (1, .int p1), (2, .int p2), (3, .int p3), (4, .int p4), (5, .int p5)]) rfl ?_
  unfold f_X8_chance at h
  refine wg_iload_n X 1 dX8_chance_0 rfl rfl ?_
  obtain ⟨r2, h1, h⟩ := bd_some h
  refine wg_callSi (As := [.int p1]) (rest := []) X (c_X8_isRoom l E ad S C M p1  h1) T_yX8_isRoom k_535 dX8_chance_1 rfl rfl (Nat.le_of_ble_eq_true rfl) ⟨Nat.le_of_ble_eq_true rfl, Nat.le_of_ble_eq_true rfl⟩ ⟨Nat.zero_le _, Nat.zero_le _⟩ ?_
  refine wg_if_eq X 18 dX8_chance_4 (by decide) (fun c3 => ?_) (fun c3 => ?_)
  · have h := if_t c3 h
    refine wg_ldc2 (v := -4611686018427387904) X dX8_chance_18 k_808 ?_
    exact wg_lret X ⟨(Prod.mk.inj (sm_inj h)).1, (Prod.mk.inj (sm_inj h)).2, rfl⟩ hr dX8_chance_21
  · have h := if_f c3 h
    refine wg_iload_n X 3 dX8_chance_7 rfl rfl ?_
    refine wg_iconst (v := 1) X dX8_chance_8 (by decide) ?_
    refine wg_icmp_lt X 18 dX8_chance_9 (by decide) (fun c4 => ?_) (fun c4 => ?_)
    · have h := if_t c4 h
      refine wg_ldc2 (v := -4611686018427387904) X dX8_chance_18 k_808 ?_
      exact wg_lret X ⟨(Prod.mk.inj (sm_inj h)).1, (Prod.mk.inj (sm_inj h)).2, rfl⟩ hr dX8_chance_21
    · have h := if_f c4 h
      refine wg_iload_n X 3 dX8_chance_12 rfl rfl ?_
      refine wg_bipush (v := 20) X dX8_chance_13 (by decide) ?_
      refine wg_icmp_le X 22 dX8_chance_15 (by decide) (fun c5 => ?_) (fun c5 => ?_)
      · have h := if_t c5 h
        refine wg_iload X 4 dX8_chance_22 rfl ?_
        refine wg_if_lt X 46 dX8_chance_24 (by decide) (fun c6 => ?_) (fun c6 => ?_)
        · have h := if_t c6 h
          refine wg_ldc2 (v := -4611686018427387904) X dX8_chance_46 k_808 ?_
          exact wg_lret X ⟨(Prod.mk.inj (sm_inj h)).1, (Prod.mk.inj (sm_inj h)).2, rfl⟩ hr dX8_chance_49
        · have h := if_f c6 h
          refine wg_iload X 4 dX8_chance_27 rfl ?_
          refine wg_ldcw (v := 99999) X dX8_chance_29 k_809 ?_
          refine wg_icmp_gt X 46 dX8_chance_32 (by decide) (fun c7 => ?_) (fun c7 => ?_)
          · have h := if_t c7 h
            refine wg_ldc2 (v := -4611686018427387904) X dX8_chance_46 k_808 ?_
            exact wg_lret X ⟨(Prod.mk.inj (sm_inj h)).1, (Prod.mk.inj (sm_inj h)).2, rfl⟩ hr dX8_chance_49
          · have h := if_f c7 h
            refine wg_iload X 5 dX8_chance_35 rfl ?_
            refine wg_if_lt X 46 dX8_chance_37 (by decide) (fun c8 => ?_) (fun c8 => ?_)
            · have h := if_t c8 h
              refine wg_ldc2 (v := -4611686018427387904) X dX8_chance_46 k_808 ?_
              exact wg_lret X ⟨(Prod.mk.inj (sm_inj h)).1, (Prod.mk.inj (sm_inj h)).2, rfl⟩ hr dX8_chance_49
            · have h := if_f c8 h
              refine wg_iload X 5 dX8_chance_40 rfl ?_
              refine wg_iconst (v := 1) X dX8_chance_42 (by decide) ?_
              refine wg_icmp_le X 50 dX8_chance_43 (by decide) (fun c9 => ?_) (fun c9 => ?_)
              · have h := if_t c9 h
                refine wg_iconst (v := 0) X dX8_chance_50 (by decide) ?_
                refine wg_istore (lv' := [(6, .int (0 : Int32)), (0, .ref (ad 0)), (1, .int p1), (2, .int p2), (3, .int p3), (4, .int p4), (5, .int p5)]) X dX8_chance_51 rfl (by decide) rfl ?_
                refine wg_iconst (v := 0) X dX8_chance_53 (by decide) ?_
                refine wg_istore (lv' := [(7, .int (0 : Int32)), (6, .int (0 : Int32)), (0, .ref (ad 0)), (1, .int p1), (2, .int p2), (3, .int p3), (4, .int p4), (5, .int p5)]) X dX8_chance_54 rfl (by decide) rfl ?_
                obtain ⟨o24, h25, h⟩ := bd3_o h
                refine wg_pick [2, 3, 4, 5, 6, 7, 1, 0] (lv' := [(0, .ref (ad 0)), (1, .int p1), (2, .int p2), (3, .int p3), (4, .int p4), (5, .int p5), (6, .int (0 : Int32)), (7, .int (0 : Int32))]) rfl ?_
                refine L_X8_chance_l56 X hr hS r0 D0 M N   p1 p2 p3 p4 p5  N C (0 : Int32) (0 : Int32) o24 h25 (fun C21 v22 v23 e27 => ?_)
                · subst o24
                  replace h := bd3_in h
                  refine wg_iload_n X 3 dX8_chance_85 rfl rfl ?_
                  refine wg_iload X 6 dX8_chance_86 rfl ?_
                  obtain ⟨r29, h28, h⟩ := bd_some h
                  refine wg_callSi (As := [.int p3, .int v22]) (rest := []) X (c_X8_commonDivisor l E ad S N C21 M p3 v22  h28) T_yX8_commonDivisor k_810 dX8_chance_88 rfl rfl (Nat.le_of_ble_eq_true rfl) ⟨Nat.le_of_ble_eq_true rfl, Nat.le_of_ble_eq_true rfl⟩ ⟨Nat.zero_le _, Nat.zero_le _⟩ ?_
                  refine wg_istore (lv' := [(7, .int r29), (0, .ref (ad 0)), (1, .int p1), (2, .int p2), (3, .int p3), (4, .int p4), (5, .int p5), (6, .int v22)]) X dX8_chance_91 rfl (by decide) rfl ?_
                  refine wg_iload X 6 dX8_chance_93 rfl ?_
                  refine wg_if_ne X 103 dX8_chance_95 (by decide) (fun c30 => ?_) (fun c30 => ?_)
                  · have h := if_f c30 h
                    refine wg_iload_n X 4 dX8_chance_103 rfl rfl ?_
                    refine wg_iload X 0 dX8_chance_104 rfl ?_
                    obtain ⟨z31, h⟩ := ck_some h
                    refine wg_idiv X dX8_chance_106 z31 ?_
                    refine wg_i2l X dX8_chance_107 ?_
                    exact wg_lret X ⟨(Prod.mk.inj (sm_inj h)).1, (Prod.mk.inj (sm_inj h)).2, rfl⟩ hr dX8_chance_108
                  · have h := if_t c30 h
                    refine wg_iload X 7 dX8_chance_98 rfl ?_
                    refine wg_goto X 104 dX8_chance_100 (by decide) ?_
                    refine wg_iload X 0 dX8_chance_104 rfl ?_
                    obtain ⟨z32, h⟩ := ck_some h
                    refine wg_idiv X dX8_chance_106 z32 ?_
                    refine wg_i2l X dX8_chance_107 ?_
                    exact wg_lret X ⟨(Prod.mk.inj (sm_inj h)).1, (Prod.mk.inj (sm_inj h)).2, rfl⟩ hr dX8_chance_108
              · have h := if_f c9 h
                refine wg_ldc2 (v := -4611686018427387904) X dX8_chance_46 k_808 ?_
                exact wg_lret X ⟨(Prod.mk.inj (sm_inj h)).1, (Prod.mk.inj (sm_inj h)).2, rfl⟩ hr dX8_chance_49
      · have h := if_f c5 h
        refine wg_ldc2 (v := -4611686018427387904) X dX8_chance_18 k_808 ?_
        exact wg_lret X ⟨(Prod.mk.inj (sm_inj h)).1, (Prod.mk.inj (sm_inj h)).2, rfl⟩ hr dX8_chance_21
-- WindowsGive$House.become(LWindowsGive$House;)V (('c', 12), ('c', 1))
def f_X0_become_l17 (N : Nat)   (C : wg_C) (x2 : Int32) : Option ((wg_C × Int32) ⊕ (wg_C × Int32)) :=
  if (8 : Int32) ≤ x2 then (
    some (.inr (C, x2)))
  else (
    ck (inb x2 8) <|
    ck (inb x2 8) <|
    bd (f_X1_become C (15 + x2.toNatClampNeg) (4 + x2.toNatClampNeg)) fun C8 =>
    lt_ (x2 + (1 : Int32)) fun v9 =>
    some (.inl (C8, v9)))
def f_X0_become (N : Nat) (C : wg_C)  : Option wg_C :=
  ck (¬ (0 : Int32) < 0 ∧ ¬ (0 : Int32) < 0 ∧ ¬ (32 : Int32) < 0 ∧ (0 : Int32).toNatClampNeg + (32 : Int32).toNatClampNeg ≤ 32 ∧ (0 : Int32).toNatClampNeg + (32 : Int32).toNatClampNeg ≤ 32) <|
  lt_ (wg_cp C 2 13 (0 : Int32).toNatClampNeg (0 : Int32).toNatClampNeg (32 : Int32).toNatClampNeg) fun C2 =>
  bd2 (lp (fun o => f_X0_become_l17 N   o.1 o.2) N (C2, (0 : Int32))) fun C11 v12 =>
  lt_ (wg_up C11 12 2 (C11 1 2)) fun C17 =>
  lt_ (wg_up C17 12 3 (C17 1 3)) fun C19 =>
  some C19
abbrev G_X0_become (p : Program) (l : Launch) (e : Env) (s : State) (m : MethodId) (args : Array Value) (below : List Frame) (meth : Method) (c : Code) (E : wg_Ev) (ad : Nat → Nat) (S : wg_Sh) (C0 : wg_C) (M0 : wg_M) (pc : Nat) (C : wg_C) (M : wg_M) (lv : List (Nat × Value)) (st : List Value) : Prop := wg_G p l e (wg_Rm 1 21) s m args below meth c (MQ below (wg_Qv E ad S C0 M0) args s 0 0 (wg_A E)) 3 E ad S 0 0 pc C M lv st
set_option maxHeartbeats 4000000 in
set_option maxRecDepth 100000 in
theorem L_X0_become_l17 {p : Program} {l : Launch} {e : Env} {s : State} {m : MethodId} {args : Array Value} {below : List Frame} {meth : Method} {c : Code} {E : wg_Ev} {ad : Nat → Nat} {S : wg_Sh} (X : wg_X p s m args meth c cX0_become 3 RX0 E) (hr : meth.sig.returnType = none) (hS : wg_SC S) (D0 : wg_C) (M : wg_M) (N : Nat)     : ∀ (n : Nat) (C : wg_C) (x2 : Int32) (o : (wg_C × Int32)), lp (fun o => f_X0_become_l17 N   o.1 o.2) n (C, x2) = some o → (∀ (Dy : wg_C) (y2 : Int32), o = (Dy, y2) → G_X0_become p l e s m args below meth c E ad S D0 M 44 Dy M [(0, .ref (ad 12)), (1, .ref (ad 1)), (2, .int y2)] []) → G_X0_become p l e s m args below meth c E ad S D0 M 17 C M [(0, .ref (ad 12)), (1, .ref (ad 1)), (2, .int x2)] [] := by
  intro n
  induction n with
  | zero => exact fun _ _ o h => (lp_zero h).elim
  | succ n ih =>
    intro C x2 o h K
    obtain ⟨o1, hb, h2⟩ := lp_some h
    replace hb : f_X0_become_l17 N   C x2 = some o1 := hb
    clear h
    have Kc : ∀ (Dy : wg_C) (y2 : Int32), o1 = Sum.inl (Dy, y2) → G_X0_become p l e s m args below meth c E ad S D0 M 17 Dy M [(0, .ref (ad 12)), (1, .ref (ad 1)), (2, .int y2)] [] := fun Dy y2 e1 => by
      subst e1
      exact ih Dy y2 o h2 K
    have Ke : ∀ (Dy : wg_C) (y2 : Int32), o1 = Sum.inr ((Dy, y2)) → G_X0_become p l e s m args below meth c E ad S D0 M 44 Dy M [(0, .ref (ad 12)), (1, .ref (ad 1)), (2, .int y2)] [] := fun Dy y2 e1 => by
      subst e1
      exact K Dy y2 (sm_inj (α := (wg_C × Int32)) h2).symm
    clear ih K h2
    unfold f_X0_become_l17 at hb
    have h := hb
    clear hb
    refine wg_iload_n X 2 dX0_become_17 rfl rfl ?_
    refine wg_bipush (v := 8) X dX0_become_18 (by decide) ?_
    refine wg_icmp_ge X 44 dX0_become_20 (by decide) (fun c4 => ?_) (fun c4 => ?_)
    · have h := if_t c4 h
      exact Ke C x2 (sm_inj h).symm
    · have h := if_f c4 h
      refine wg_aload_n X 0 dX0_become_23 rfl rfl ?_
      refine wg_getR (b := 14) X cl0 (SCi hS 12 0 rfl) 1 (by decide) dX0_become_24 k_143 rfl (SCr hS 12 1 14 rfl) ?_
      refine wg_iload_n X 2 dX0_become_27 rfl rfl ?_
      obtain ⟨z5, h⟩ := ck_some h
      refine wg_aalS13 (b := 15 + x2.toNatClampNeg) X (SCi hS 14 13 rfl) (SCl hS 14 8 rfl) z5 (SCp hS (inb_lt z5)).2.2.1 dX0_become_28 ?_
      refine wg_aload_n X 1 dX0_become_29 rfl rfl ?_
      refine wg_getR (b := 3) X cl0 (SCi hS 1 0 rfl) 1 (by decide) dX0_become_30 k_143 rfl (SCr hS 1 1 3 rfl) ?_
      refine wg_iload_n X 2 dX0_become_33 rfl rfl ?_
      obtain ⟨z6, h⟩ := ck_some h
      refine wg_aalS13 (b := 4 + x2.toNatClampNeg) X (SCi hS 3 13 rfl) (SCl hS 3 8 rfl) z6 (SCp hS (inb_lt z6)).1 dX0_become_34 ?_
      obtain ⟨C8, h7, h⟩ := bd_some h
      refine wg_callVv (As := [.ref (ad (4 + x2.toNatClampNeg))]) (rest := []) X (c_X1_become l E ad S hS C M (15 + x2.toNatClampNeg) (4 + x2.toNatClampNeg) ((SCp hS (inb_lt z5)).2.2.2) ((SCp hS (inb_lt z6)).2.1) h7) T_yX1_become k_822 cl1 ((SCp hS (inb_lt z5)).2.2.2) dX0_become_35 rfl rfl (Nat.le_of_ble_eq_true rfl) ⟨Nat.le_of_ble_eq_true rfl, Nat.le_of_ble_eq_true rfl⟩ ⟨Nat.zero_le _, Nat.zero_le _⟩ ?_
      obtain ⟨v9, e10, h⟩ := lt_some h
      refine wg_iinc (lv' := [(2, .int v9), (0, .ref (ad 12)), (1, .ref (ad 1))]) X 2 dX0_become_38 rfl e10 (by decide) rfl ?_
      refine wg_goto X 17 dX0_become_41 (by decide) ?_
      refine wg_pick [1, 2, 0] (lv' := [(0, .ref (ad 12)), (1, .ref (ad 1)), (2, .int v9)]) rfl ?_
      exact Kc C8 v9 (sm_inj h).symm
set_option maxHeartbeats 4000000 in
set_option maxRecDepth 100000 in
theorem c_X0_become (l : Launch) (E : wg_Ev) (ad : Nat → Nat) (S : wg_Sh) (hS : wg_SC S) (N : Nat) (C : wg_C) (M : wg_M)   {D0 : wg_C} (h : f_X0_become N C  = some D0) : wg_Cv l yX0_become cX0_become 3 none 1 21 E ad S C M [.ref (ad 12), .ref (ad 1)] D0 M := by
  refine wg_start (own := RX0) (by decide +kernel) rfl (Nat.le_of_ble_eq_true rfl) ?_
  intro p e s m below meth c X hr hnm
  refine wg_lv (lv' := [(0, .ref (ad 12)), (1, .ref (ad 1))]) rfl ?_
  unfold f_X0_become at h
  refine wg_aload_n X 1 dX0_become_0 rfl rfl ?_
  refine wg_getR (b := 2) X cl0 (SCi hS 1 0 rfl) 0 (by decide) dX0_become_1 k_140 rfl (SCr hS 1 0 2 rfl) ?_
  refine wg_iconst (v := 0) X dX0_become_4 (by decide) ?_
  refine wg_aload_n X 0 dX0_become_5 rfl rfl ?_
  refine wg_getR (b := 13) X cl0 (SCi hS 12 0 rfl) 0 (by decide) dX0_become_6 k_140 rfl (SCr hS 12 0 13 rfl) ?_
  refine wg_iconst (v := 0) X dX0_become_9 (by decide) ?_
  refine wg_bipush (v := 32) X dX0_become_10 (by decide) ?_
  obtain ⟨z1, h⟩ := ck_some h
  obtain ⟨C2, e3, h⟩ := lt_some h
  refine wg_acopy X (SCi hS 2 10 rfl) (SCl hS 2 32 rfl) (SCi hS 13 10 rfl) (SCl hS 13 32 rfl) k_821 z1.1 z1.2.1 z1.2.2.1 z1.2.2.2.1 z1.2.2.2.2 ⟨Nat.le_of_ble_eq_true rfl, Nat.le_of_ble_eq_true rfl⟩ dX0_become_12 e3 ?_
  refine wg_iconst (v := 0) X dX0_become_15 (by decide) ?_
  refine wg_istore_n (lv' := [(2, .int (0 : Int32)), (0, .ref (ad 12)), (1, .ref (ad 1))]) X dX0_become_16 rfl rfl (by decide) rfl ?_
  obtain ⟨o13, h14, h⟩ := bd2_o h
  refine wg_pick [1, 2, 0] (lv' := [(0, .ref (ad 12)), (1, .ref (ad 1)), (2, .int (0 : Int32))]) rfl ?_
  refine L_X0_become_l17 X hr hS D0 M N     N C2 (0 : Int32) o13 h14 (fun C11 v12 e16 => ?_)
  · subst o13
    replace h := bd2_in h
    refine wg_aload_n X 0 dX0_become_44 rfl rfl ?_
    refine wg_aload_n X 1 dX0_become_45 rfl rfl ?_
    refine wg_getC X cl0 (SCi hS 1 0 rfl) 2 (by decide) dX0_become_46 k_146 rfl ?_
    obtain ⟨C17, e18, h⟩ := lt_some h
    refine wg_putCe X cl0 (SCi hS 12 0 rfl) 2 (by decide) dX0_become_49 k_146 rfl rfl rfl rfl e18 ?_
    refine wg_aload_n X 0 dX0_become_52 rfl rfl ?_
    refine wg_aload_n X 1 dX0_become_53 rfl rfl ?_
    refine wg_getC X cl0 (SCi hS 1 0 rfl) 3 (by decide) dX0_become_54 k_149 rfl ?_
    obtain ⟨C19, e20, h⟩ := lt_some h
    refine wg_putCe X cl0 (SCi hS 12 0 rfl) 3 (by decide) dX0_become_57 k_149 rfl rfl rfl rfl e20 ?_
    exact wg_vret X ⟨(sm_inj h), rfl⟩ hr dX0_become_60
-- WindowsGive.image()I (('c', 0),)
def f_X8_image (N : Nat) (C : wg_C)  : Option (Int32 × wg_C) :=
  bd (f_X0_become N C ) fun C2 =>
  lt_ (wg_up C2 0 2 (1 : Int32)) fun C3 =>
  some ((C3 12 2), C3)
set_option maxHeartbeats 4000000 in
set_option maxRecDepth 100000 in
theorem c_X8_image (l : Launch) (E : wg_Ev) (ad : Nat → Nat) (S : wg_Sh) (hS : wg_SC S) (N : Nat) (C : wg_C) (M : wg_M)   {r0 : Int32} {D0 : wg_C} (h : f_X8_image N C  = some (r0, D0)) : wg_Ci l yX8_image cX8_image 1 (some .int) 2 43 E ad S C M [.ref (ad 0)] r0 D0 M := by
  refine wg_start (own := RX8) (by decide +kernel) rfl (Nat.le_of_ble_eq_true rfl) ?_
  intro p e s m below meth c X hr hnm
  refine wg_lv (lv' := [(0, .ref (ad 0))]) rfl ?_
  unfold f_X8_image at h
  refine wg_aload_n X 0 dX8_image_0 rfl rfl ?_
  refine wg_getR (b := 12) X cl8 (SCi hS 0 8 rfl) 1 (by decide) dX8_image_1 k_473 rfl (SCr hS 0 1 12 rfl) ?_
  refine wg_aload_n X 0 dX8_image_4 rfl rfl ?_
  refine wg_getR (b := 1) X cl8 (SCi hS 0 8 rfl) 0 (by decide) dX8_image_5 k_472 rfl (SCr hS 0 0 1 rfl) ?_
  obtain ⟨C2, h1, h⟩ := bd_some h
  refine wg_callVv (As := [.ref (ad 1)]) (rest := []) X (c_X0_become l E ad S hS N C M   h1) T_yX0_become k_817 cl0 (SCi hS 12 0 rfl) dX8_image_8 rfl rfl (Nat.le_of_ble_eq_true rfl) ⟨Nat.le_of_ble_eq_true rfl, Nat.le_of_ble_eq_true rfl⟩ ⟨Nat.zero_le _, Nat.zero_le _⟩ ?_
  refine wg_aload_n X 0 dX8_image_11 rfl rfl ?_
  refine wg_iconst (v := 1) X dX8_image_12 (by decide) ?_
  obtain ⟨C3, e4, h⟩ := lt_some h
  refine wg_putCe X cl8 (SCi hS 0 8 rfl) 2 (by decide) dX8_image_13 k_474 rfl rfl (by decide) (by decide) e4 ?_
  refine wg_aload_n X 0 dX8_image_16 rfl rfl ?_
  refine wg_getR (b := 12) X cl8 (SCi hS 0 8 rfl) 1 (by decide) dX8_image_17 k_473 rfl (SCr hS 0 1 12 rfl) ?_
  refine wg_getC X cl0 (SCi hS 12 0 rfl) 2 (by decide) dX8_image_20 k_147 rfl ?_
  exact wg_iret X ⟨(Prod.mk.inj (sm_inj h)).1, (Prod.mk.inj (sm_inj h)).2, rfl⟩ hr dX8_image_23
-- WindowsGive$House.become(LWindowsGive$House;)V (('c', 1), ('c', 12))
def f_X0_become_i1_l17 (N : Nat)   (C : wg_C) (x2 : Int32) : Option ((wg_C × Int32) ⊕ (wg_C × Int32)) :=
  if (8 : Int32) ≤ x2 then (
    some (.inr (C, x2)))
  else (
    ck (inb x2 8) <|
    ck (inb x2 8) <|
    bd (f_X1_become C (4 + x2.toNatClampNeg) (15 + x2.toNatClampNeg)) fun C8 =>
    lt_ (x2 + (1 : Int32)) fun v9 =>
    some (.inl (C8, v9)))
def f_X0_become_i1 (N : Nat) (C : wg_C)  : Option wg_C :=
  ck (¬ (0 : Int32) < 0 ∧ ¬ (0 : Int32) < 0 ∧ ¬ (32 : Int32) < 0 ∧ (0 : Int32).toNatClampNeg + (32 : Int32).toNatClampNeg ≤ 32 ∧ (0 : Int32).toNatClampNeg + (32 : Int32).toNatClampNeg ≤ 32) <|
  lt_ (wg_cp C 13 2 (0 : Int32).toNatClampNeg (0 : Int32).toNatClampNeg (32 : Int32).toNatClampNeg) fun C2 =>
  bd2 (lp (fun o => f_X0_become_i1_l17 N   o.1 o.2) N (C2, (0 : Int32))) fun C11 v12 =>
  lt_ (wg_up C11 1 2 (C11 12 2)) fun C17 =>
  lt_ (wg_up C17 1 3 (C17 12 3)) fun C19 =>
  some C19
abbrev G_X0_become_i1 (p : Program) (l : Launch) (e : Env) (s : State) (m : MethodId) (args : Array Value) (below : List Frame) (meth : Method) (c : Code) (E : wg_Ev) (ad : Nat → Nat) (S : wg_Sh) (C0 : wg_C) (M0 : wg_M) (pc : Nat) (C : wg_C) (M : wg_M) (lv : List (Nat × Value)) (st : List Value) : Prop := wg_G p l e (wg_Rm 1 21) s m args below meth c (MQ below (wg_Qv E ad S C0 M0) args s 0 0 (wg_A E)) 3 E ad S 0 0 pc C M lv st
set_option maxHeartbeats 4000000 in
set_option maxRecDepth 100000 in
theorem L_X0_become_i1_l17 {p : Program} {l : Launch} {e : Env} {s : State} {m : MethodId} {args : Array Value} {below : List Frame} {meth : Method} {c : Code} {E : wg_Ev} {ad : Nat → Nat} {S : wg_Sh} (X : wg_X p s m args meth c cX0_become 3 RX0 E) (hr : meth.sig.returnType = none) (hS : wg_SC S) (D0 : wg_C) (M : wg_M) (N : Nat)     : ∀ (n : Nat) (C : wg_C) (x2 : Int32) (o : (wg_C × Int32)), lp (fun o => f_X0_become_i1_l17 N   o.1 o.2) n (C, x2) = some o → (∀ (Dy : wg_C) (y2 : Int32), o = (Dy, y2) → G_X0_become_i1 p l e s m args below meth c E ad S D0 M 44 Dy M [(0, .ref (ad 1)), (1, .ref (ad 12)), (2, .int y2)] []) → G_X0_become_i1 p l e s m args below meth c E ad S D0 M 17 C M [(0, .ref (ad 1)), (1, .ref (ad 12)), (2, .int x2)] [] := by
  intro n
  induction n with
  | zero => exact fun _ _ o h => (lp_zero h).elim
  | succ n ih =>
    intro C x2 o h K
    obtain ⟨o1, hb, h2⟩ := lp_some h
    replace hb : f_X0_become_i1_l17 N   C x2 = some o1 := hb
    clear h
    have Kc : ∀ (Dy : wg_C) (y2 : Int32), o1 = Sum.inl (Dy, y2) → G_X0_become_i1 p l e s m args below meth c E ad S D0 M 17 Dy M [(0, .ref (ad 1)), (1, .ref (ad 12)), (2, .int y2)] [] := fun Dy y2 e1 => by
      subst e1
      exact ih Dy y2 o h2 K
    have Ke : ∀ (Dy : wg_C) (y2 : Int32), o1 = Sum.inr ((Dy, y2)) → G_X0_become_i1 p l e s m args below meth c E ad S D0 M 44 Dy M [(0, .ref (ad 1)), (1, .ref (ad 12)), (2, .int y2)] [] := fun Dy y2 e1 => by
      subst e1
      exact K Dy y2 (sm_inj (α := (wg_C × Int32)) h2).symm
    clear ih K h2
    unfold f_X0_become_i1_l17 at hb
    have h := hb
    clear hb
    refine wg_iload_n X 2 dX0_become_17 rfl rfl ?_
    refine wg_bipush (v := 8) X dX0_become_18 (by decide) ?_
    refine wg_icmp_ge X 44 dX0_become_20 (by decide) (fun c4 => ?_) (fun c4 => ?_)
    · have h := if_t c4 h
      exact Ke C x2 (sm_inj h).symm
    · have h := if_f c4 h
      refine wg_aload_n X 0 dX0_become_23 rfl rfl ?_
      refine wg_getR (b := 3) X cl0 (SCi hS 1 0 rfl) 1 (by decide) dX0_become_24 k_143 rfl (SCr hS 1 1 3 rfl) ?_
      refine wg_iload_n X 2 dX0_become_27 rfl rfl ?_
      obtain ⟨z5, h⟩ := ck_some h
      refine wg_aalS13 (b := 4 + x2.toNatClampNeg) X (SCi hS 3 13 rfl) (SCl hS 3 8 rfl) z5 (SCp hS (inb_lt z5)).1 dX0_become_28 ?_
      refine wg_aload_n X 1 dX0_become_29 rfl rfl ?_
      refine wg_getR (b := 14) X cl0 (SCi hS 12 0 rfl) 1 (by decide) dX0_become_30 k_143 rfl (SCr hS 12 1 14 rfl) ?_
      refine wg_iload_n X 2 dX0_become_33 rfl rfl ?_
      obtain ⟨z6, h⟩ := ck_some h
      refine wg_aalS13 (b := 15 + x2.toNatClampNeg) X (SCi hS 14 13 rfl) (SCl hS 14 8 rfl) z6 (SCp hS (inb_lt z6)).2.2.1 dX0_become_34 ?_
      obtain ⟨C8, h7, h⟩ := bd_some h
      refine wg_callVv (As := [.ref (ad (15 + x2.toNatClampNeg))]) (rest := []) X (c_X1_become l E ad S hS C M (4 + x2.toNatClampNeg) (15 + x2.toNatClampNeg) ((SCp hS (inb_lt z5)).2.1) ((SCp hS (inb_lt z6)).2.2.2) h7) T_yX1_become k_822 cl1 ((SCp hS (inb_lt z5)).2.1) dX0_become_35 rfl rfl (Nat.le_of_ble_eq_true rfl) ⟨Nat.le_of_ble_eq_true rfl, Nat.le_of_ble_eq_true rfl⟩ ⟨Nat.zero_le _, Nat.zero_le _⟩ ?_
      obtain ⟨v9, e10, h⟩ := lt_some h
      refine wg_iinc (lv' := [(2, .int v9), (0, .ref (ad 1)), (1, .ref (ad 12))]) X 2 dX0_become_38 rfl e10 (by decide) rfl ?_
      refine wg_goto X 17 dX0_become_41 (by decide) ?_
      refine wg_pick [1, 2, 0] (lv' := [(0, .ref (ad 1)), (1, .ref (ad 12)), (2, .int v9)]) rfl ?_
      exact Kc C8 v9 (sm_inj h).symm
set_option maxHeartbeats 4000000 in
set_option maxRecDepth 100000 in
theorem c_X0_become_i1 (l : Launch) (E : wg_Ev) (ad : Nat → Nat) (S : wg_Sh) (hS : wg_SC S) (N : Nat) (C : wg_C) (M : wg_M)   {D0 : wg_C} (h : f_X0_become_i1 N C  = some D0) : wg_Cv l yX0_become cX0_become 3 none 1 21 E ad S C M [.ref (ad 1), .ref (ad 12)] D0 M := by
  refine wg_start (own := RX0) (by decide +kernel) rfl (Nat.le_of_ble_eq_true rfl) ?_
  intro p e s m below meth c X hr hnm
  refine wg_lv (lv' := [(0, .ref (ad 1)), (1, .ref (ad 12))]) rfl ?_
  unfold f_X0_become_i1 at h
  refine wg_aload_n X 1 dX0_become_0 rfl rfl ?_
  refine wg_getR (b := 13) X cl0 (SCi hS 12 0 rfl) 0 (by decide) dX0_become_1 k_140 rfl (SCr hS 12 0 13 rfl) ?_
  refine wg_iconst (v := 0) X dX0_become_4 (by decide) ?_
  refine wg_aload_n X 0 dX0_become_5 rfl rfl ?_
  refine wg_getR (b := 2) X cl0 (SCi hS 1 0 rfl) 0 (by decide) dX0_become_6 k_140 rfl (SCr hS 1 0 2 rfl) ?_
  refine wg_iconst (v := 0) X dX0_become_9 (by decide) ?_
  refine wg_bipush (v := 32) X dX0_become_10 (by decide) ?_
  obtain ⟨z1, h⟩ := ck_some h
  obtain ⟨C2, e3, h⟩ := lt_some h
  refine wg_acopy X (SCi hS 13 10 rfl) (SCl hS 13 32 rfl) (SCi hS 2 10 rfl) (SCl hS 2 32 rfl) k_821 z1.1 z1.2.1 z1.2.2.1 z1.2.2.2.1 z1.2.2.2.2 ⟨Nat.le_of_ble_eq_true rfl, Nat.le_of_ble_eq_true rfl⟩ dX0_become_12 e3 ?_
  refine wg_iconst (v := 0) X dX0_become_15 (by decide) ?_
  refine wg_istore_n (lv' := [(2, .int (0 : Int32)), (0, .ref (ad 1)), (1, .ref (ad 12))]) X dX0_become_16 rfl rfl (by decide) rfl ?_
  obtain ⟨o13, h14, h⟩ := bd2_o h
  refine wg_pick [1, 2, 0] (lv' := [(0, .ref (ad 1)), (1, .ref (ad 12)), (2, .int (0 : Int32))]) rfl ?_
  refine L_X0_become_i1_l17 X hr hS D0 M N     N C2 (0 : Int32) o13 h14 (fun C11 v12 e16 => ?_)
  · subst o13
    replace h := bd2_in h
    refine wg_aload_n X 0 dX0_become_44 rfl rfl ?_
    refine wg_aload_n X 1 dX0_become_45 rfl rfl ?_
    refine wg_getC X cl0 (SCi hS 12 0 rfl) 2 (by decide) dX0_become_46 k_146 rfl ?_
    obtain ⟨C17, e18, h⟩ := lt_some h
    refine wg_putCe X cl0 (SCi hS 1 0 rfl) 2 (by decide) dX0_become_49 k_146 rfl rfl rfl rfl e18 ?_
    refine wg_aload_n X 0 dX0_become_52 rfl rfl ?_
    refine wg_aload_n X 1 dX0_become_53 rfl rfl ?_
    refine wg_getC X cl0 (SCi hS 12 0 rfl) 3 (by decide) dX0_become_54 k_149 rfl ?_
    obtain ⟨C19, e20, h⟩ := lt_some h
    refine wg_putCe X cl0 (SCi hS 1 0 rfl) 3 (by decide) dX0_become_57 k_149 rfl rfl rfl rfl e20 ?_
    exact wg_vret X ⟨(sm_inj h), rfl⟩ hr dX0_become_60
-- WindowsGive.back()I (('c', 0),)
def f_X8_back (N : Nat) (C : wg_C)  : Option (Int32 × wg_C) :=
  if (C 0 2) = 0 then (
    some ((-3 : Int32), C))
  else (
    bd (f_X0_become_i1 N C ) fun C3 =>
    some ((C3 1 2), C3))
set_option maxHeartbeats 4000000 in
set_option maxRecDepth 100000 in
theorem c_X8_back (l : Launch) (E : wg_Ev) (ad : Nat → Nat) (S : wg_Sh) (hS : wg_SC S) (N : Nat) (C : wg_C) (M : wg_M)   {r0 : Int32} {D0 : wg_C} (h : f_X8_back N C  = some (r0, D0)) : wg_Ci l yX8_back cX8_back 1 (some .int) 2 43 E ad S C M [.ref (ad 0)] r0 D0 M := by
  refine wg_start (own := RX8) (by decide +kernel) rfl (Nat.le_of_ble_eq_true rfl) ?_
  intro p e s m below meth c X hr hnm
  refine wg_lv (lv' := [(0, .ref (ad 0))]) rfl ?_
  unfold f_X8_back at h
  refine wg_aload_n X 0 dX8_back_0 rfl rfl ?_
  refine wg_getC X cl8 (SCi hS 0 8 rfl) 2 (by decide) dX8_back_1 k_474 rfl ?_
  refine wg_if_ne X 10 dX8_back_4 (by decide) (fun c1 => ?_) (fun c1 => ?_)
  · have h := if_f c1 h
    refine wg_aload_n X 0 dX8_back_10 rfl rfl ?_
    refine wg_getR (b := 1) X cl8 (SCi hS 0 8 rfl) 0 (by decide) dX8_back_11 k_472 rfl (SCr hS 0 0 1 rfl) ?_
    refine wg_aload_n X 0 dX8_back_14 rfl rfl ?_
    refine wg_getR (b := 12) X cl8 (SCi hS 0 8 rfl) 1 (by decide) dX8_back_15 k_473 rfl (SCr hS 0 1 12 rfl) ?_
    obtain ⟨C3, h2, h⟩ := bd_some h
    refine wg_callVv (As := [.ref (ad 12)]) (rest := []) X (c_X0_become_i1 l E ad S hS N C M   h2) T_yX0_become k_817 cl0 (SCi hS 1 0 rfl) dX8_back_18 rfl rfl (Nat.le_of_ble_eq_true rfl) ⟨Nat.le_of_ble_eq_true rfl, Nat.le_of_ble_eq_true rfl⟩ ⟨Nat.zero_le _, Nat.zero_le _⟩ ?_
    refine wg_aload_n X 0 dX8_back_21 rfl rfl ?_
    refine wg_getR (b := 1) X cl8 (SCi hS 0 8 rfl) 0 (by decide) dX8_back_22 k_472 rfl (SCr hS 0 0 1 rfl) ?_
    refine wg_getC X cl0 (SCi hS 1 0 rfl) 2 (by decide) dX8_back_25 k_147 rfl ?_
    exact wg_iret X ⟨(Prod.mk.inj (sm_inj h)).1, (Prod.mk.inj (sm_inj h)).2, rfl⟩ hr dX8_back_28
  · have h := if_t c1 h
    refine wg_bipush (v := -3) X dX8_back_7 (by decide) ?_
    exact wg_iret X ⟨(Prod.mk.inj (sm_inj h)).1, (Prod.mk.inj (sm_inj h)).2, rfl⟩ hr dX8_back_9
-- WindowsGive$House.weatherTogether()I (('c', 1),)
def f_X0_weatherTogether_l4 (N : Nat) (C : wg_C)   (x1 : Int32) (x2 : Int32) : Option ((Int32 × Int32) ⊕ (Int32 × Int32)) :=
  if (32 : Int32) ≤ x2 then (
    some (.inr (x1, x2)))
  else (
    ck (inb x2 32) <|
    lt_ (x1 + (C 2 x2.toNatClampNeg)) fun v3 =>
    lt_ (x2 + (1 : Int32)) fun v5 =>
    some (.inl (v3, v5)))
def f_X0_weatherTogether (N : Nat) (C : wg_C)  : Option Int32 :=
  bd2 (lp (fun o => f_X0_weatherTogether_l4 N C   o.1 o.2) N ((0 : Int32), (0 : Int32))) fun v7 v8 =>
  some v7
abbrev G_X0_weatherTogether (p : Program) (l : Launch) (e : Env) (s : State) (m : MethodId) (args : Array Value) (below : List Frame) (meth : Method) (c : Code) (E : wg_Ev) (ad : Nat → Nat) (S : wg_Sh) (r0 : Int32) (C0 : wg_C) (M0 : wg_M) (pc : Nat) (C : wg_C) (M : wg_M) (lv : List (Nat × Value)) (st : List Value) : Prop := wg_G p l e (wg_Rm 0 0) s m args below meth c (MQ below (wg_Qi E ad S r0 C0 M0) args s 0 0 (wg_A E)) 3 E ad S 0 0 pc C M lv st
set_option maxHeartbeats 4000000 in
set_option maxRecDepth 100000 in
theorem L_X0_weatherTogether_l4 {p : Program} {l : Launch} {e : Env} {s : State} {m : MethodId} {args : Array Value} {below : List Frame} {meth : Method} {c : Code} {E : wg_Ev} {ad : Nat → Nat} {S : wg_Sh} (X : wg_X p s m args meth c cX0_weatherTogether 3 RX0 E) (hr : meth.sig.returnType = (some .int)) (hS : wg_SC S) (r0 : Int32) (M : wg_M) (N : Nat)  (C : wg_C)    : ∀ (n : Nat) (x1 : Int32) (x2 : Int32) (o : (Int32 × Int32)), lp (fun o => f_X0_weatherTogether_l4 N C   o.1 o.2) n (x1, x2) = some o → (∀ (y1 : Int32) (y2 : Int32), o = (y1, y2) → G_X0_weatherTogether p l e s m args below meth c E ad S r0 C M 25 C M [(0, .ref (ad 1)), (1, .int y1), (2, .int y2)] []) → G_X0_weatherTogether p l e s m args below meth c E ad S r0 C M 4 C M [(0, .ref (ad 1)), (1, .int x1), (2, .int x2)] [] := by
  intro n
  induction n with
  | zero => exact fun _ _ o h => (lp_zero h).elim
  | succ n ih =>
    intro x1 x2 o h K
    obtain ⟨o1, hb, h2⟩ := lp_some h
    replace hb : f_X0_weatherTogether_l4 N C   x1 x2 = some o1 := hb
    clear h
    have Kc : ∀ (y1 : Int32) (y2 : Int32), o1 = Sum.inl (y1, y2) → G_X0_weatherTogether p l e s m args below meth c E ad S r0 C M 4 C M [(0, .ref (ad 1)), (1, .int y1), (2, .int y2)] [] := fun y1 y2 e1 => by
      subst e1
      exact ih y1 y2 o h2 K
    have Ke : ∀ (y1 : Int32) (y2 : Int32), o1 = Sum.inr ((y1, y2)) → G_X0_weatherTogether p l e s m args below meth c E ad S r0 C M 25 C M [(0, .ref (ad 1)), (1, .int y1), (2, .int y2)] [] := fun y1 y2 e1 => by
      subst e1
      exact K y1 y2 (sm_inj (α := (Int32 × Int32)) h2).symm
    clear ih K h2
    unfold f_X0_weatherTogether_l4 at hb
    have h := hb
    clear hb
    refine wg_iload_n X 2 dX0_weatherTogether_4 rfl rfl ?_
    refine wg_bipush (v := 32) X dX0_weatherTogether_5 (by decide) ?_
    refine wg_icmp_ge X 25 dX0_weatherTogether_7 (by decide) (fun c1 => ?_) (fun c1 => ?_)
    · have h := if_t c1 h
      exact Ke x1 x2 (sm_inj h).symm
    · have h := if_f c1 h
      refine wg_iload_n X 1 dX0_weatherTogether_10 rfl rfl ?_
      refine wg_aload_n X 0 dX0_weatherTogether_11 rfl rfl ?_
      refine wg_getR (b := 2) X cl0 (SCi hS 1 0 rfl) 0 (by decide) dX0_weatherTogether_12 k_140 rfl (SCr hS 1 0 2 rfl) ?_
      refine wg_iload_n X 2 dX0_weatherTogether_15 rfl rfl ?_
      obtain ⟨z2, h⟩ := ck_some h
      refine wg_iald X (SCi hS 2 10 rfl) (SCl hS 2 32 rfl) z2 dX0_weatherTogether_16 ?_
      refine wg_iadd X dX0_weatherTogether_17 ?_
      obtain ⟨v3, e4, h⟩ := lt_some h
      refine wg_istore_n (lv' := [(1, .int v3), (0, .ref (ad 1)), (2, .int x2)]) X dX0_weatherTogether_18 rfl e4 (by decide) rfl ?_
      obtain ⟨v5, e6, h⟩ := lt_some h
      refine wg_iinc (lv' := [(2, .int v5), (1, .int v3), (0, .ref (ad 1))]) X 2 dX0_weatherTogether_19 rfl e6 (by decide) rfl ?_
      refine wg_goto X 4 dX0_weatherTogether_22 (by decide) ?_
      refine wg_pick [2, 1, 0] (lv' := [(0, .ref (ad 1)), (1, .int v3), (2, .int v5)]) rfl ?_
      exact Kc v3 v5 (sm_inj h).symm
set_option maxHeartbeats 4000000 in
set_option maxRecDepth 100000 in
theorem c_X0_weatherTogether (l : Launch) (E : wg_Ev) (ad : Nat → Nat) (S : wg_Sh) (hS : wg_SC S) (N : Nat) (C : wg_C) (M : wg_M)   {r0 : Int32} (h : f_X0_weatherTogether N C  = some r0) : wg_Ci l yX0_weatherTogether cX0_weatherTogether 3 (some .int) 0 0 E ad S C M [.ref (ad 1)] r0 C M := by
  refine wg_start (own := RX0) (by decide +kernel) rfl (Nat.le_of_ble_eq_true rfl) ?_
  intro p e s m below meth c X hr hnm
  refine wg_lv (lv' := [(0, .ref (ad 1))]) rfl ?_
  unfold f_X0_weatherTogether at h
  refine wg_iconst (v := 0) X dX0_weatherTogether_0 (by decide) ?_
  refine wg_istore_n (lv' := [(1, .int (0 : Int32)), (0, .ref (ad 1))]) X dX0_weatherTogether_1 rfl rfl (by decide) rfl ?_
  refine wg_iconst (v := 0) X dX0_weatherTogether_2 (by decide) ?_
  refine wg_istore_n (lv' := [(2, .int (0 : Int32)), (1, .int (0 : Int32)), (0, .ref (ad 1))]) X dX0_weatherTogether_3 rfl rfl (by decide) rfl ?_
  obtain ⟨o9, h10, h⟩ := bd2_o h
  refine wg_pick [2, 1, 0] (lv' := [(0, .ref (ad 1)), (1, .int (0 : Int32)), (2, .int (0 : Int32))]) rfl ?_
  refine L_X0_weatherTogether_l4 X hr hS r0 M N  C    N (0 : Int32) (0 : Int32) o9 h10 (fun v7 v8 e12 => ?_)
  · subst o9
    replace h := bd2_in h
    refine wg_iload_n X 1 dX0_weatherTogether_25 rfl rfl ?_
    exact wg_iret X ⟨(sm_inj h), rfl, rfl⟩ hr dX0_weatherTogether_26
-- WindowsGive.count(I)I (('c', 0), 'i')
def f_X8_count (N : Nat) (C : wg_C) (p1 : Int32) : Option Int32 :=
  if p1 = (0 : Int32) then (
    some (C 1 2))
  else
  if p1 = (1 : Int32) then (
    some (C 31 1))
  else
  if p1 = (2 : Int32) then (
    some (C 23 1))
  else
  if p1 = (3 : Int32) then (
    some (C 1 3))
  else
  if p1 = (4 : Int32) then (
    bd (f_X0_weatherTogether N C ) fun r7 =>
    some r7)
  else
  some (-2 : Int32)
set_option maxHeartbeats 4000000 in
set_option maxRecDepth 100000 in
theorem c_X8_count (l : Launch) (E : wg_Ev) (ad : Nat → Nat) (S : wg_Sh) (hS : wg_SC S) (N : Nat) (C : wg_C) (M : wg_M) (p1 : Int32)  {r0 : Int32} (h : f_X8_count N C p1 = some r0) : wg_Ci l yX8_count cX8_count 2 (some .int) 1 22 E ad S C M [.ref (ad 0), .int p1] r0 C M := by
  refine wg_start (own := RX8) (by decide +kernel) rfl (Nat.le_of_ble_eq_true rfl) ?_
  intro p e s m below meth c X hr hnm
  refine wg_lv (lv' := [(0, .ref (ad 0)), (1, .int p1)]) rfl ?_
  unfold f_X8_count at h
  refine wg_iload_n X 1 dX8_count_0 rfl rfl ?_
  by_cases c1 : p1 = (0 : Int32)
  · have h := if_t c1 h
    refine wg_tblIn (off := 35) X 36 dX8_count_1 c1 (by decide) (by decide) (by decide) (by decide) ?_
    refine wg_aload_n X 0 dX8_count_36 rfl rfl ?_
    refine wg_getR (b := 1) X cl8 (SCi hS 0 8 rfl) 0 (by decide) dX8_count_37 k_472 rfl (SCr hS 0 0 1 rfl) ?_
    refine wg_getC X cl0 (SCi hS 1 0 rfl) 2 (by decide) dX8_count_40 k_147 rfl ?_
    exact wg_iret X ⟨(sm_inj h), rfl, rfl⟩ hr dX8_count_43
  have h := if_f c1 h
  by_cases c2 : p1 = (1 : Int32)
  · have h := if_t c2 h
    refine wg_tblIn (off := 43) X 44 dX8_count_1 c2 (by decide) (by decide) (by decide) (by decide) ?_
    refine wg_aload_n X 0 dX8_count_44 rfl rfl ?_
    refine wg_getR (b := 31) X cl8 (SCi hS 0 8 rfl) 5 (by decide) dX8_count_45 k_477 rfl (SCr hS 0 5 31 rfl) ?_
    refine wg_getC X cl3 (SCi hS 31 3 rfl) 1 (by decide) dX8_count_48 k_230 rfl ?_
    exact wg_iret X ⟨(sm_inj h), rfl, rfl⟩ hr dX8_count_51
  have h := if_f c2 h
  by_cases c3 : p1 = (2 : Int32)
  · have h := if_t c3 h
    refine wg_tblIn (off := 51) X 52 dX8_count_1 c3 (by decide) (by decide) (by decide) (by decide) ?_
    refine wg_aload_n X 0 dX8_count_52 rfl rfl ?_
    refine wg_getR (b := 23) X cl8 (SCi hS 0 8 rfl) 3 (by decide) dX8_count_53 k_475 rfl (SCr hS 0 3 23 rfl) ?_
    refine wg_getC X cl5 (SCi hS 23 5 rfl) 1 (by decide) dX8_count_56 k_169 rfl ?_
    exact wg_iret X ⟨(sm_inj h), rfl, rfl⟩ hr dX8_count_59
  have h := if_f c3 h
  by_cases c4 : p1 = (3 : Int32)
  · have h := if_t c4 h
    refine wg_tblIn (off := 59) X 60 dX8_count_1 c4 (by decide) (by decide) (by decide) (by decide) ?_
    refine wg_aload_n X 0 dX8_count_60 rfl rfl ?_
    refine wg_getR (b := 1) X cl8 (SCi hS 0 8 rfl) 0 (by decide) dX8_count_61 k_472 rfl (SCr hS 0 0 1 rfl) ?_
    refine wg_getC X cl0 (SCi hS 1 0 rfl) 3 (by decide) dX8_count_64 k_151 rfl ?_
    exact wg_iret X ⟨(sm_inj h), rfl, rfl⟩ hr dX8_count_67
  have h := if_f c4 h
  by_cases c5 : p1 = (4 : Int32)
  · have h := if_t c5 h
    refine wg_tblIn (off := 67) X 68 dX8_count_1 c5 (by decide) (by decide) (by decide) (by decide) ?_
    refine wg_aload_n X 0 dX8_count_68 rfl rfl ?_
    refine wg_getR (b := 1) X cl8 (SCi hS 0 8 rfl) 0 (by decide) dX8_count_69 k_472 rfl (SCr hS 0 0 1 rfl) ?_
    obtain ⟨r7, h6, h⟩ := bd_some h
    refine wg_callVi (As := []) (rest := []) X (c_X0_weatherTogether l E ad S hS N C M   h6) T_yX0_weatherTogether k_831 cl0 (SCi hS 1 0 rfl) dX8_count_72 rfl rfl (Nat.le_of_ble_eq_true rfl) ⟨Nat.le_of_ble_eq_true rfl, Nat.le_of_ble_eq_true rfl⟩ ⟨Nat.zero_le _, Nat.zero_le _⟩ ?_
    exact wg_iret X ⟨(sm_inj h), rfl, rfl⟩ hr dX8_count_75
  have h := if_f c5 h
  refine wg_tblOut X 76 dX8_count_1 (wg_tout (0) (4) (fun k hk => by
      rcases (show k = 0 ∨ k = 1 ∨ k = 2 ∨ k = 3 ∨ k = 4 by omega) with rfl | rfl | rfl | rfl | rfl
      · exact fun q => c1 (q.trans (by decide))
      · exact fun q => c2 (q.trans (by decide))
      · exact fun q => c3 (q.trans (by decide))
      · exact fun q => c4 (q.trans (by decide))
      · exact fun q => c5 (q.trans (by decide))) (by decide) (by decide)) (by decide) ?_
  refine wg_bipush (v := -2) X dX8_count_76 (by decide) ?_
  exact wg_iret X ⟨(sm_inj h), rfl, rfl⟩ hr dX8_count_78
-- WindowsGive.isRowSort(I)Z ('i',)
def f_X8_isRowSort (p0 : Int32) : Option Int32 :=
  if p0 < 0 then (
    some (0 : Int32))
  else (
    if (2 : Int32) < p0 then (
      some (0 : Int32))
    else (
      some (1 : Int32)))
set_option maxHeartbeats 4000000 in
set_option maxRecDepth 100000 in
theorem c_X8_isRowSort (l : Launch) (E : wg_Ev) (ad : Nat → Nat) (S : wg_Sh) (C : wg_C) (M : wg_M) (p0 : Int32)  {r0 : Int32} (h : f_X8_isRowSort p0 = some r0) : wg_Ci l yX8_isRowSort cX8_isRowSort 1 (some .boolean) 0 0 E ad S C M [.int p0] r0 C M := by
  refine wg_start (own := RX8) (by decide +kernel) rfl (Nat.le_of_ble_eq_true rfl) ?_
  intro p e s m below meth c X hr hnm
  refine wg_lv (lv' := [(0, .int p0)]) rfl ?_
  unfold f_X8_isRowSort at h
  refine wg_iload_n X 0 dX8_isRowSort_0 rfl rfl ?_
  refine wg_if_lt X 13 dX8_isRowSort_1 (by decide) (fun c1 => ?_) (fun c1 => ?_)
  · have h := if_t c1 h
    refine wg_iconst (v := 0) X dX8_isRowSort_13 (by decide) ?_
    exact wg_zret X ⟨(sm_inj h), rfl, rfl⟩ hr (by decide) dX8_isRowSort_14
  · have h := if_f c1 h
    refine wg_iload_n X 0 dX8_isRowSort_4 rfl rfl ?_
    refine wg_iconst (v := 2) X dX8_isRowSort_5 (by decide) ?_
    refine wg_icmp_gt X 13 dX8_isRowSort_6 (by decide) (fun c2 => ?_) (fun c2 => ?_)
    · have h := if_t c2 h
      refine wg_iconst (v := 0) X dX8_isRowSort_13 (by decide) ?_
      exact wg_zret X ⟨(sm_inj h), rfl, rfl⟩ hr (by decide) dX8_isRowSort_14
    · have h := if_f c2 h
      refine wg_iconst (v := 1) X dX8_isRowSort_9 (by decide) ?_
      refine wg_goto X 14 dX8_isRowSort_10 (by decide) ?_
      exact wg_zret X ⟨(sm_inj h), rfl, rfl⟩ hr (by decide) dX8_isRowSort_14
-- WindowsGive.sheet(III)I (('c', 0), 'i', 'i', 'i')
def f_X8_sheet_j22 (N : Nat) (C : wg_C)  (x1 : Int32) (x2 : Int32) (x3 : Int32) : Option (Int32 × wg_C) :=
  if x2 = (-1 : Int32) then (
    ck (inb x1 4) <|
    bd (f_X4_become N C (44 + 2 * x1.toNatClampNeg) (-1 : Int32) (0 : Int32)) fun C13 =>
    some ((1 : Int32), C13))
  else (
    if x3 ≤ (40 : Int32) then (
      if 0 ≤ x3 then (
        ck (inb x1 4) <|
        bd (f_X4_become N C (44 + 2 * x1.toNatClampNeg) x2 x3) fun C10 =>
        some ((1 : Int32), C10))
      else (
        some ((-14 : Int32), C)))
    else (
      some ((-2 : Int32), C)))
def f_X8_sheet (N : Nat) (C : wg_C) (p1 : Int32) (p2 : Int32) (p3 : Int32) : Option (Int32 × wg_C) :=
  bd (f_X8_isSheet p1) fun r2 =>
  if r2 = 0 then (
    some ((-2 : Int32), C))
  else (
    if p2 = (-1 : Int32) then (
      f_X8_sheet_j22 N C  p1 p2 p3)
    else (
      bd (f_X8_isRowSort p2) fun r15 =>
      if r15 = 0 then (
        some ((-2 : Int32), C))
      else (
        f_X8_sheet_j22 N C  p1 p2 p3)))
abbrev G_X8_sheet (p : Program) (l : Launch) (e : Env) (s : State) (m : MethodId) (args : Array Value) (below : List Frame) (meth : Method) (c : Code) (E : wg_Ev) (ad : Nat → Nat) (S : wg_Sh) (r0 : Int32) (C0 : wg_C) (M0 : wg_M) (pc : Nat) (C : wg_C) (M : wg_M) (lv : List (Nat × Value)) (st : List Value) : Prop := wg_G p l e (wg_Rm 2 45) s m args below meth c (MQ below (wg_Qi E ad S r0 C0 M0) args s 0 0 (wg_A E)) 4 E ad S 0 0 pc C M lv st
set_option maxHeartbeats 4000000 in
set_option maxRecDepth 100000 in
theorem J_X8_sheet_j22 {p : Program} {l : Launch} {e : Env} {s : State} {m : MethodId} {args : Array Value} {below : List Frame} {meth : Method} {c : Code} {E : wg_Ev} {ad : Nat → Nat} {S : wg_Sh} (X : wg_X p s m args meth c cX8_sheet 4 RX8 E) (hr : meth.sig.returnType = (some .int)) (hS : wg_SC S) (r0 : Int32) (D0 : wg_C) (M : wg_M) (N : Nat)  (C : wg_C)  (x1 : Int32) (x2 : Int32) (x3 : Int32)   (h : f_X8_sheet_j22 N C  x1 x2 x3 = some (r0, D0)) : G_X8_sheet p l e s m args below meth c E ad S r0 D0 M 22 C M [(0, .ref (ad 0)), (1, .int x1), (2, .int x2), (3, .int x3)] [] := by
  unfold f_X8_sheet_j22 at h
  refine wg_iload_n X 2 dX8_sheet_22 rfl rfl ?_
  refine wg_iconst (v := -1) X dX8_sheet_23 (by decide) ?_
  refine wg_icmp_ne X 40 dX8_sheet_24 (by decide) (fun c5 => ?_) (fun c5 => ?_)
  · have h := if_f c5 h
    refine wg_iload_n X 3 dX8_sheet_40 rfl rfl ?_
    refine wg_bipush (v := 40) X dX8_sheet_41 (by decide) ?_
    refine wg_icmp_le X 49 dX8_sheet_43 (by decide) (fun c6 => ?_) (fun c6 => ?_)
    · have h := if_t c6 h
      refine wg_iload_n X 3 dX8_sheet_49 rfl rfl ?_
      refine wg_if_ge X 56 dX8_sheet_50 (by decide) (fun c7 => ?_) (fun c7 => ?_)
      · have h := if_t c7 h
        refine wg_aload_n X 0 dX8_sheet_56 rfl rfl ?_
        refine wg_getR (b := 39) X cl8 (SCi hS 0 8 rfl) 7 (by decide) dX8_sheet_57 k_479 rfl (SCr hS 0 7 39 rfl) ?_
        refine wg_iload_n X 1 dX8_sheet_60 rfl rfl ?_
        obtain ⟨z8, h⟩ := ck_some h
        refine wg_aalS14 (b := 44 + 2 * x1.toNatClampNeg) X (SCi hS 39 14 rfl) (SCl hS 39 4 rfl) z8 (SCs hS (inb_lt z8)).1 dX8_sheet_61 ?_
        refine wg_iload_n X 2 dX8_sheet_62 rfl rfl ?_
        refine wg_iload_n X 3 dX8_sheet_63 rfl rfl ?_
        obtain ⟨C10, h9, h⟩ := bd_some h
        refine wg_callVv (As := [.int x2, .int x3]) (rest := []) X (c_X4_become l E ad S hS N C M (44 + 2 * x1.toNatClampNeg) x2 x3 ((SCs hS (inb_lt z8)).2) h9) T_yX4_become k_753 cl4 ((SCs hS (inb_lt z8)).2.1) dX8_sheet_64 rfl rfl (Nat.le_of_ble_eq_true rfl) ⟨Nat.le_of_ble_eq_true rfl, Nat.le_of_ble_eq_true rfl⟩ ⟨Nat.zero_le _, Nat.zero_le _⟩ ?_
        refine wg_iconst (v := 1) X dX8_sheet_67 (by decide) ?_
        exact wg_iret X ⟨(Prod.mk.inj (sm_inj h)).1, (Prod.mk.inj (sm_inj h)).2, rfl⟩ hr dX8_sheet_68
      · have h := if_f c7 h
        refine wg_bipush (v := -14) X dX8_sheet_53 (by decide) ?_
        exact wg_iret X ⟨(Prod.mk.inj (sm_inj h)).1, (Prod.mk.inj (sm_inj h)).2, rfl⟩ hr dX8_sheet_55
    · have h := if_f c6 h
      refine wg_bipush (v := -2) X dX8_sheet_46 (by decide) ?_
      exact wg_iret X ⟨(Prod.mk.inj (sm_inj h)).1, (Prod.mk.inj (sm_inj h)).2, rfl⟩ hr dX8_sheet_48
  · have h := if_t c5 h
    refine wg_aload_n X 0 dX8_sheet_27 rfl rfl ?_
    refine wg_getR (b := 39) X cl8 (SCi hS 0 8 rfl) 7 (by decide) dX8_sheet_28 k_479 rfl (SCr hS 0 7 39 rfl) ?_
    refine wg_iload_n X 1 dX8_sheet_31 rfl rfl ?_
    obtain ⟨z11, h⟩ := ck_some h
    refine wg_aalS14 (b := 44 + 2 * x1.toNatClampNeg) X (SCi hS 39 14 rfl) (SCl hS 39 4 rfl) z11 (SCs hS (inb_lt z11)).1 dX8_sheet_32 ?_
    refine wg_iconst (v := -1) X dX8_sheet_33 (by decide) ?_
    refine wg_iconst (v := 0) X dX8_sheet_34 (by decide) ?_
    obtain ⟨C13, h12, h⟩ := bd_some h
    refine wg_callVv (As := [.int (-1 : Int32), .int (0 : Int32)]) (rest := []) X (c_X4_become l E ad S hS N C M (44 + 2 * x1.toNatClampNeg) (-1 : Int32) (0 : Int32) ((SCs hS (inb_lt z11)).2) h12) T_yX4_become k_753 cl4 ((SCs hS (inb_lt z11)).2.1) dX8_sheet_35 rfl rfl (Nat.le_of_ble_eq_true rfl) ⟨Nat.le_of_ble_eq_true rfl, Nat.le_of_ble_eq_true rfl⟩ ⟨Nat.zero_le _, Nat.zero_le _⟩ ?_
    refine wg_iconst (v := 1) X dX8_sheet_38 (by decide) ?_
    exact wg_iret X ⟨(Prod.mk.inj (sm_inj h)).1, (Prod.mk.inj (sm_inj h)).2, rfl⟩ hr dX8_sheet_39
set_option maxHeartbeats 4000000 in
set_option maxRecDepth 100000 in
theorem c_X8_sheet (l : Launch) (E : wg_Ev) (ad : Nat → Nat) (S : wg_Sh) (hS : wg_SC S) (N : Nat) (C : wg_C) (M : wg_M) (p1 : Int32) (p2 : Int32) (p3 : Int32)  {r0 : Int32} {D0 : wg_C} (h : f_X8_sheet N C p1 p2 p3 = some (r0, D0)) : wg_Ci l yX8_sheet cX8_sheet 4 (some .int) 2 45 E ad S C M [.ref (ad 0), .int p1, .int p2, .int p3] r0 D0 M := by
  refine wg_start (own := RX8) (by decide +kernel) rfl (Nat.le_of_ble_eq_true rfl) ?_
  intro p e s m below meth c X hr hnm
  refine wg_lv (lv' := [(0, .ref (ad 0)), (1, .int p1), (2, .int p2), (3, .int p3)]) rfl ?_
  unfold f_X8_sheet at h
  refine wg_iload_n X 1 dX8_sheet_0 rfl rfl ?_
  obtain ⟨r2, h1, h⟩ := bd_some h
  refine wg_callSi (As := [.int p1]) (rest := []) X (c_X8_isSheet l E ad S C M p1  h1) T_yX8_isSheet k_711 dX8_sheet_1 rfl rfl (Nat.le_of_ble_eq_true rfl) ⟨Nat.le_of_ble_eq_true rfl, Nat.le_of_ble_eq_true rfl⟩ ⟨Nat.zero_le _, Nat.zero_le _⟩ ?_
  refine wg_if_eq X 19 dX8_sheet_4 (by decide) (fun c3 => ?_) (fun c3 => ?_)
  · have h := if_t c3 h
    refine wg_bipush (v := -2) X dX8_sheet_19 (by decide) ?_
    exact wg_iret X ⟨(Prod.mk.inj (sm_inj h)).1, (Prod.mk.inj (sm_inj h)).2, rfl⟩ hr dX8_sheet_21
  · have h := if_f c3 h
    refine wg_iload_n X 2 dX8_sheet_7 rfl rfl ?_
    refine wg_iconst (v := -1) X dX8_sheet_8 (by decide) ?_
    refine wg_icmp_eq X 22 dX8_sheet_9 (by decide) (fun c4 => ?_) (fun c4 => ?_)
    · have h := if_t c4 h
      exact J_X8_sheet_j22 X hr hS r0 D0 M N  C  p1 p2 p3   h
    · have h := if_f c4 h
      refine wg_iload_n X 2 dX8_sheet_12 rfl rfl ?_
      obtain ⟨r15, h14, h⟩ := bd_some h
      refine wg_callSi (As := [.int p2]) (rest := []) X (c_X8_isRowSort l E ad S C M p2  h14) T_yX8_isRowSort k_839 dX8_sheet_13 rfl rfl (Nat.le_of_ble_eq_true rfl) ⟨Nat.le_of_ble_eq_true rfl, Nat.le_of_ble_eq_true rfl⟩ ⟨Nat.zero_le _, Nat.zero_le _⟩ ?_
      refine wg_if_ne X 22 dX8_sheet_16 (by decide) (fun c16 => ?_) (fun c16 => ?_)
      · have h := if_f c16 h
        exact J_X8_sheet_j22 X hr hS r0 D0 M N  C  p1 p2 p3   h
      · have h := if_t c16 h
        refine wg_bipush (v := -2) X dX8_sheet_19 (by decide) ?_
        exact wg_iret X ⟨(Prod.mk.inj (sm_inj h)).1, (Prod.mk.inj (sm_inj h)).2, rfl⟩ hr dX8_sheet_21
-- WindowsGive$Sheet.has(I)Z ('SH', 'i')
def f_X4_has (C : wg_C) (p0 : Nat) (p1 : Int32) : Option Int32 :=
  if p1 < 0 then (
    some (0 : Int32))
  else (
    if (C p0 2) ≤ p1 then (
      some (0 : Int32))
    else (
      some (1 : Int32)))
set_option maxHeartbeats 4000000 in
set_option maxRecDepth 100000 in
theorem c_X4_has (l : Launch) (E : wg_Ev) (ad : Nat → Nat) (S : wg_Sh) (hS : wg_SC S) (C : wg_C) (M : wg_M) (p0 : Nat) (p1 : Int32) (hp0 : wg_Sht S p0) {r0 : Int32} (h : f_X4_has C p0 p1 = some r0) : wg_Ci l yX4_has cX4_has 2 (some .boolean) 0 0 E ad S C M [.ref (ad p0), .int p1] r0 C M := by
  refine wg_start (own := RX4) (by decide +kernel) rfl (Nat.le_of_ble_eq_true rfl) ?_
  intro p e s m below meth c X hr hnm
  refine wg_lv (lv' := [(0, .ref (ad p0)), (1, .int p1)]) rfl ?_
  unfold f_X4_has at h
  refine wg_iload_n X 1 dX4_has_0 rfl rfl ?_
  refine wg_if_lt X 16 dX4_has_1 (by decide) (fun c1 => ?_) (fun c1 => ?_)
  · have h := if_t c1 h
    refine wg_iconst (v := 0) X dX4_has_16 (by decide) ?_
    exact wg_zret X ⟨(sm_inj h), rfl, rfl⟩ hr (by decide) dX4_has_17
  · have h := if_f c1 h
    refine wg_iload_n X 1 dX4_has_4 rfl rfl ?_
    refine wg_aload_n X 0 dX4_has_5 rfl rfl ?_
    refine wg_getC X cl4 hp0.1 2 (by decide) dX4_has_6 k_273 rfl ?_
    refine wg_icmp_ge X 16 dX4_has_9 (by decide) (fun c2 => ?_) (fun c2 => ?_)
    · have h := if_t c2 h
      refine wg_iconst (v := 0) X dX4_has_16 (by decide) ?_
      exact wg_zret X ⟨(sm_inj h), rfl, rfl⟩ hr (by decide) dX4_has_17
    · have h := if_f c2 h
      refine wg_iconst (v := 1) X dX4_has_12 (by decide) ?_
      refine wg_goto X 17 dX4_has_13 (by decide) ?_
      exact wg_zret X ⟨(sm_inj h), rfl, rfl⟩ hr (by decide) dX4_has_17
-- WindowsGive.cell(III)I (('c', 0), 'i', 'i', 'i')
def f_X8_cell (C : wg_C) (p1 : Int32) (p2 : Int32) (p3 : Int32) : Option (Int32 × wg_C) :=
  bd (f_X8_isSheet p1) fun r2 =>
  if r2 = 0 then (
    some ((-2 : Int32), C))
  else (
    ck (inb p1 4) <|
    bd (f_X4_isMissing C (44 + 2 * p1.toNatClampNeg)) fun r6 =>
    if r6 = 0 then (
      bd (f_X4_has C (44 + 2 * p1.toNatClampNeg) p2) fun r9 =>
      if r9 = 0 then (
        some ((-12 : Int32), C))
      else (
        bd (f_X4_put C (44 + 2 * p1.toNatClampNeg) p2 p3) fun C12 =>
        some ((1 : Int32), C12)))
    else (
      some ((-11 : Int32), C)))
set_option maxHeartbeats 4000000 in
set_option maxRecDepth 100000 in
theorem c_X8_cell (l : Launch) (E : wg_Ev) (ad : Nat → Nat) (S : wg_Sh) (hS : wg_SC S) (C : wg_C) (M : wg_M) (p1 : Int32) (p2 : Int32) (p3 : Int32)  {r0 : Int32} {D0 : wg_C} (h : f_X8_cell C p1 p2 p3 = some (r0, D0)) : wg_Ci l yX8_cell cX8_cell 5 (some .int) 1 22 E ad S C M [.ref (ad 0), .int p1, .int p2, .int p3] r0 D0 M := by
  refine wg_start (own := RX8) (by decide +kernel) rfl (Nat.le_of_ble_eq_true rfl) ?_
  intro p e s m below meth c X hr hnm
  refine wg_lv (lv' := [(0, .ref (ad 0)), (1, .int p1), (2, .int p2), (3, .int p3)]) rfl ?_
  unfold f_X8_cell at h
  refine wg_iload_n X 1 dX8_cell_0 rfl rfl ?_
  obtain ⟨r2, h1, h⟩ := bd_some h
  refine wg_callSi (As := [.int p1]) (rest := []) X (c_X8_isSheet l E ad S C M p1  h1) T_yX8_isSheet k_711 dX8_cell_1 rfl rfl (Nat.le_of_ble_eq_true rfl) ⟨Nat.le_of_ble_eq_true rfl, Nat.le_of_ble_eq_true rfl⟩ ⟨Nat.zero_le _, Nat.zero_le _⟩ ?_
  refine wg_if_ne X 10 dX8_cell_4 (by decide) (fun c3 => ?_) (fun c3 => ?_)
  · have h := if_f c3 h
    refine wg_aload_n X 0 dX8_cell_10 rfl rfl ?_
    refine wg_getR (b := 39) X cl8 (SCi hS 0 8 rfl) 7 (by decide) dX8_cell_11 k_479 rfl (SCr hS 0 7 39 rfl) ?_
    refine wg_iload_n X 1 dX8_cell_14 rfl rfl ?_
    obtain ⟨z4, h⟩ := ck_some h
    refine wg_aalS14 (b := 44 + 2 * p1.toNatClampNeg) X (SCi hS 39 14 rfl) (SCl hS 39 4 rfl) z4 (SCs hS (inb_lt z4)).1 dX8_cell_15 ?_
    refine wg_astore (lv' := [(4, .ref (ad (44 + 2 * p1.toNatClampNeg))), (0, .ref (ad 0)), (1, .int p1), (2, .int p2), (3, .int p3)]) X dX8_cell_16 rfl (by decide) rfl ?_
    refine wg_aload X 0 dX8_cell_18 rfl ?_
    obtain ⟨r6, h5, h⟩ := bd_some h
    refine wg_callVi (As := []) (rest := []) X (c_X4_isMissing l E ad S hS C M (44 + 2 * p1.toNatClampNeg) ((SCs hS (inb_lt z4)).2) h5) T_yX4_isMissing k_714 cl4 ((SCs hS (inb_lt z4)).2.1) dX8_cell_20 rfl rfl (Nat.le_of_ble_eq_true rfl) ⟨Nat.le_of_ble_eq_true rfl, Nat.le_of_ble_eq_true rfl⟩ ⟨Nat.zero_le _, Nat.zero_le _⟩ ?_
    refine wg_if_eq X 29 dX8_cell_23 (by decide) (fun c7 => ?_) (fun c7 => ?_)
    · have h := if_t c7 h
      refine wg_aload X 0 dX8_cell_29 rfl ?_
      refine wg_iload_n X 3 dX8_cell_31 rfl rfl ?_
      obtain ⟨r9, h8, h⟩ := bd_some h
      refine wg_callVi (As := [.int p2]) (rest := []) X (c_X4_has l E ad S hS C M (44 + 2 * p1.toNatClampNeg) p2 ((SCs hS (inb_lt z4)).2) h8) T_yX4_has k_846 cl4 ((SCs hS (inb_lt z4)).2.1) dX8_cell_32 rfl rfl (Nat.le_of_ble_eq_true rfl) ⟨Nat.le_of_ble_eq_true rfl, Nat.le_of_ble_eq_true rfl⟩ ⟨Nat.zero_le _, Nat.zero_le _⟩ ?_
      refine wg_if_ne X 41 dX8_cell_35 (by decide) (fun c10 => ?_) (fun c10 => ?_)
      · have h := if_f c10 h
        refine wg_aload X 0 dX8_cell_41 rfl ?_
        refine wg_iload_n X 3 dX8_cell_43 rfl rfl ?_
        refine wg_iload_n X 4 dX8_cell_44 rfl rfl ?_
        obtain ⟨C12, h11, h⟩ := bd_some h
        refine wg_callVv (As := [.int p2, .int p3]) (rest := []) X (c_X4_put l E ad S hS C M (44 + 2 * p1.toNatClampNeg) p2 p3 ((SCs hS (inb_lt z4)).2) h11) T_yX4_put k_758 cl4 ((SCs hS (inb_lt z4)).2.1) dX8_cell_45 rfl rfl (Nat.le_of_ble_eq_true rfl) ⟨Nat.le_of_ble_eq_true rfl, Nat.le_of_ble_eq_true rfl⟩ ⟨Nat.zero_le _, Nat.zero_le _⟩ ?_
        refine wg_iconst (v := 1) X dX8_cell_48 (by decide) ?_
        exact wg_iret X ⟨(Prod.mk.inj (sm_inj h)).1, (Prod.mk.inj (sm_inj h)).2, rfl⟩ hr dX8_cell_49
      · have h := if_t c10 h
        refine wg_bipush (v := -12) X dX8_cell_38 (by decide) ?_
        exact wg_iret X ⟨(Prod.mk.inj (sm_inj h)).1, (Prod.mk.inj (sm_inj h)).2, rfl⟩ hr dX8_cell_40
    · have h := if_f c7 h
      refine wg_bipush (v := -11) X dX8_cell_26 (by decide) ?_
      exact wg_iret X ⟨(Prod.mk.inj (sm_inj h)).1, (Prod.mk.inj (sm_inj h)).2, rfl⟩ hr dX8_cell_28
  · have h := if_t c3 h
    refine wg_bipush (v := -2) X dX8_cell_7 (by decide) ?_
    exact wg_iret X ⟨(Prod.mk.inj (sm_inj h)).1, (Prod.mk.inj (sm_inj h)).2, rfl⟩ hr dX8_cell_9
-- WindowsGive$Sheet.hasRun(II)Z ('SH', 'i', 'i')
def f_X4_hasRun (C : wg_C) (p0 : Nat) (p1 : Int32) (p2 : Int32) : Option Int32 :=
  if p1 < 0 then (
    some (0 : Int32))
  else (
    if p2 < 0 then (
      some (0 : Int32))
    else (
      if (C p0 2) < p1 then (
        some (0 : Int32))
      else (
        if ((C p0 2) - p1) < p2 then (
          some (0 : Int32))
        else (
          some (1 : Int32)))))
set_option maxHeartbeats 4000000 in
set_option maxRecDepth 100000 in
theorem c_X4_hasRun (l : Launch) (E : wg_Ev) (ad : Nat → Nat) (S : wg_Sh) (hS : wg_SC S) (C : wg_C) (M : wg_M) (p0 : Nat) (p1 : Int32) (p2 : Int32) (hp0 : wg_Sht S p0) {r0 : Int32} (h : f_X4_hasRun C p0 p1 p2 = some r0) : wg_Ci l yX4_hasRun cX4_hasRun 3 (some .boolean) 0 0 E ad S C M [.ref (ad p0), .int p1, .int p2] r0 C M := by
  refine wg_start (own := RX4) (by decide +kernel) rfl (Nat.le_of_ble_eq_true rfl) ?_
  intro p e s m below meth c X hr hnm
  refine wg_lv (lv' := [(0, .ref (ad p0)), (1, .int p1), (2, .int p2)]) rfl ?_
  unfold f_X4_hasRun at h
  refine wg_iload_n X 1 dX4_hasRun_0 rfl rfl ?_
  refine wg_if_lt X 30 dX4_hasRun_1 (by decide) (fun c1 => ?_) (fun c1 => ?_)
  · have h := if_t c1 h
    refine wg_iconst (v := 0) X dX4_hasRun_30 (by decide) ?_
    exact wg_zret X ⟨(sm_inj h), rfl, rfl⟩ hr (by decide) dX4_hasRun_31
  · have h := if_f c1 h
    refine wg_iload_n X 2 dX4_hasRun_4 rfl rfl ?_
    refine wg_if_lt X 30 dX4_hasRun_5 (by decide) (fun c2 => ?_) (fun c2 => ?_)
    · have h := if_t c2 h
      refine wg_iconst (v := 0) X dX4_hasRun_30 (by decide) ?_
      exact wg_zret X ⟨(sm_inj h), rfl, rfl⟩ hr (by decide) dX4_hasRun_31
    · have h := if_f c2 h
      refine wg_iload_n X 1 dX4_hasRun_8 rfl rfl ?_
      refine wg_aload_n X 0 dX4_hasRun_9 rfl rfl ?_
      refine wg_getC X cl4 hp0.1 2 (by decide) dX4_hasRun_10 k_273 rfl ?_
      refine wg_icmp_gt X 30 dX4_hasRun_13 (by decide) (fun c3 => ?_) (fun c3 => ?_)
      · have h := if_t c3 h
        refine wg_iconst (v := 0) X dX4_hasRun_30 (by decide) ?_
        exact wg_zret X ⟨(sm_inj h), rfl, rfl⟩ hr (by decide) dX4_hasRun_31
      · have h := if_f c3 h
        refine wg_iload_n X 2 dX4_hasRun_16 rfl rfl ?_
        refine wg_aload_n X 0 dX4_hasRun_17 rfl rfl ?_
        refine wg_getC X cl4 hp0.1 2 (by decide) dX4_hasRun_18 k_273 rfl ?_
        refine wg_iload_n X 1 dX4_hasRun_21 rfl rfl ?_
        refine wg_isub X dX4_hasRun_22 ?_
        refine wg_icmp_gt X 30 dX4_hasRun_23 (by decide) (fun c4 => ?_) (fun c4 => ?_)
        · have h := if_t c4 h
          refine wg_iconst (v := 0) X dX4_hasRun_30 (by decide) ?_
          exact wg_zret X ⟨(sm_inj h), rfl, rfl⟩ hr (by decide) dX4_hasRun_31
        · have h := if_f c4 h
          refine wg_iconst (v := 1) X dX4_hasRun_26 (by decide) ?_
          refine wg_goto X 31 dX4_hasRun_27 (by decide) ?_
          exact wg_zret X ⟨(sm_inj h), rfl, rfl⟩ hr (by decide) dX4_hasRun_31
-- WindowsGive.copy(IIIII)I (('c', 0), 'i', 'i', 'i', 'i', 'i')
def f_X8_copy (C : wg_C) (p1 : Int32) (p2 : Int32) (p3 : Int32) (p4 : Int32) (p5 : Int32) : Option (Int32 × wg_C) :=
  bd (f_X8_isSheet p1) fun r2 =>
  if r2 = 0 then (
    some ((-2 : Int32), C))
  else (
    bd (f_X8_isSheet p3) fun r5 =>
    if r5 = 0 then (
      some ((-2 : Int32), C))
    else (
      ck (inb p1 4) <|
      ck (inb p3 4) <|
      bd (f_X4_isMissing C (44 + 2 * p1.toNatClampNeg)) fun r10 =>
      if r10 = 0 then (
        bd (f_X4_isMissing C (44 + 2 * p3.toNatClampNeg)) fun r13 =>
        if r13 = 0 then (
          if (C (44 + 2 * p1.toNatClampNeg) 1) = (C (44 + 2 * p3.toNatClampNeg) 1) then (
            bd (f_X4_hasRun C (44 + 2 * p1.toNatClampNeg) p2 p5) fun r17 =>
            if r17 = 0 then (
              some ((-12 : Int32), C))
            else (
              bd (f_X4_hasRun C (44 + 2 * p3.toNatClampNeg) p4 p5) fun r20 =>
              if r20 = 0 then (
                some ((-12 : Int32), C))
              else (
                ck (¬ p2 < 0 ∧ ¬ p4 < 0 ∧ ¬ p5 < 0 ∧ p2.toNatClampNeg + p5.toNatClampNeg ≤ 40 ∧ p4.toNatClampNeg + p5.toNatClampNeg ≤ 40) <|
                lt_ (wg_cp C (44 + 2 * p1.toNatClampNeg + 1) (44 + 2 * p3.toNatClampNeg + 1) p2.toNatClampNeg p4.toNatClampNeg p5.toNatClampNeg) fun C23 =>
                some (p5, C23))))
          else (
            some ((-13 : Int32), C)))
        else (
          some ((-11 : Int32), C)))
      else (
        some ((-11 : Int32), C))))
set_option maxHeartbeats 4000000 in
set_option maxRecDepth 100000 in
theorem c_X8_copy (l : Launch) (E : wg_Ev) (ad : Nat → Nat) (S : wg_Sh) (hS : wg_SC S) (C : wg_C) (M : wg_M) (p1 : Int32) (p2 : Int32) (p3 : Int32) (p4 : Int32) (p5 : Int32)  {r0 : Int32} {D0 : wg_C} (h : f_X8_copy C p1 p2 p3 p4 p5 = some (r0, D0)) : wg_Ci l yX8_copy cX8_copy 8 (some .int) 1 22 E ad S C M [.ref (ad 0), .int p1, .int p2, .int p3, .int p4, .int p5] r0 D0 M := by
  refine wg_start (own := RX8) (by decide +kernel) rfl (Nat.le_of_ble_eq_true rfl) ?_
  intro p e s m below meth c X hr hnm
  refine wg_lv (lv' := [(0, .ref (ad 0)), (1, .int p1), (2, .int p2), (3, .int p3), (4, .int p4), (5, .int p5)]) rfl ?_
  unfold f_X8_copy at h
  refine wg_iload_n X 1 dX8_copy_0 rfl rfl ?_
  obtain ⟨r2, h1, h⟩ := bd_some h
  refine wg_callSi (As := [.int p1]) (rest := []) X (c_X8_isSheet l E ad S C M p1  h1) T_yX8_isSheet k_711 dX8_copy_1 rfl rfl (Nat.le_of_ble_eq_true rfl) ⟨Nat.le_of_ble_eq_true rfl, Nat.le_of_ble_eq_true rfl⟩ ⟨Nat.zero_le _, Nat.zero_le _⟩ ?_
  refine wg_if_eq X 14 dX8_copy_4 (by decide) (fun c3 => ?_) (fun c3 => ?_)
  · have h := if_t c3 h
    refine wg_bipush (v := -2) X dX8_copy_14 (by decide) ?_
    exact wg_iret X ⟨(Prod.mk.inj (sm_inj h)).1, (Prod.mk.inj (sm_inj h)).2, rfl⟩ hr dX8_copy_16
  · have h := if_f c3 h
    refine wg_iload_n X 3 dX8_copy_7 rfl rfl ?_
    obtain ⟨r5, h4, h⟩ := bd_some h
    refine wg_callSi (As := [.int p3]) (rest := []) X (c_X8_isSheet l E ad S C M p3  h4) T_yX8_isSheet k_711 dX8_copy_8 rfl rfl (Nat.le_of_ble_eq_true rfl) ⟨Nat.le_of_ble_eq_true rfl, Nat.le_of_ble_eq_true rfl⟩ ⟨Nat.zero_le _, Nat.zero_le _⟩ ?_
    refine wg_if_ne X 17 dX8_copy_11 (by decide) (fun c6 => ?_) (fun c6 => ?_)
    · have h := if_f c6 h
      refine wg_aload_n X 0 dX8_copy_17 rfl rfl ?_
      refine wg_getR (b := 39) X cl8 (SCi hS 0 8 rfl) 7 (by decide) dX8_copy_18 k_479 rfl (SCr hS 0 7 39 rfl) ?_
      refine wg_iload_n X 1 dX8_copy_21 rfl rfl ?_
      obtain ⟨z7, h⟩ := ck_some h
      refine wg_aalS14 (b := 44 + 2 * p1.toNatClampNeg) X (SCi hS 39 14 rfl) (SCl hS 39 4 rfl) z7 (SCs hS (inb_lt z7)).1 dX8_copy_22 ?_
      refine wg_astore (lv' := [(6, .ref (ad (44 + 2 * p1.toNatClampNeg))), (0, .ref (ad 0)), (1, .int p1), (2, .int p2), (3, .int p3), (4, .int p4), (5, .int p5)]) X dX8_copy_23 rfl (by decide) rfl ?_
      refine wg_aload_n X 1 dX8_copy_25 rfl rfl ?_
      refine wg_getR (b := 39) X cl8 (SCi hS 0 8 rfl) 7 (by decide) dX8_copy_26 k_479 rfl (SCr hS 0 7 39 rfl) ?_
      refine wg_iload_n X 4 dX8_copy_29 rfl rfl ?_
      obtain ⟨z8, h⟩ := ck_some h
      refine wg_aalS14 (b := 44 + 2 * p3.toNatClampNeg) X (SCi hS 39 14 rfl) (SCl hS 39 4 rfl) z8 (SCs hS (inb_lt z8)).1 dX8_copy_30 ?_
      refine wg_astore (lv' := [(7, .ref (ad (44 + 2 * p3.toNatClampNeg))), (6, .ref (ad (44 + 2 * p1.toNatClampNeg))), (0, .ref (ad 0)), (1, .int p1), (2, .int p2), (3, .int p3), (4, .int p4), (5, .int p5)]) X dX8_copy_31 rfl (by decide) rfl ?_
      refine wg_aload X 1 dX8_copy_33 rfl ?_
      obtain ⟨r10, h9, h⟩ := bd_some h
      refine wg_callVi (As := []) (rest := []) X (c_X4_isMissing l E ad S hS C M (44 + 2 * p1.toNatClampNeg) ((SCs hS (inb_lt z7)).2) h9) T_yX4_isMissing k_714 cl4 ((SCs hS (inb_lt z7)).2.1) dX8_copy_35 rfl rfl (Nat.le_of_ble_eq_true rfl) ⟨Nat.le_of_ble_eq_true rfl, Nat.le_of_ble_eq_true rfl⟩ ⟨Nat.zero_le _, Nat.zero_le _⟩ ?_
      refine wg_if_ne X 49 dX8_copy_38 (by decide) (fun c11 => ?_) (fun c11 => ?_)
      · have h := if_f c11 h
        refine wg_bipush (v := -11) X dX8_copy_49 (by decide) ?_
        exact wg_iret X ⟨(Prod.mk.inj (sm_inj h)).1, (Prod.mk.inj (sm_inj h)).2, rfl⟩ hr dX8_copy_51
      · have h := if_t c11 h
        refine wg_aload X 0 dX8_copy_41 rfl ?_
        obtain ⟨r13, h12, h⟩ := bd_some h
        refine wg_callVi (As := []) (rest := []) X (c_X4_isMissing l E ad S hS C M (44 + 2 * p3.toNatClampNeg) ((SCs hS (inb_lt z8)).2) h12) T_yX4_isMissing k_714 cl4 ((SCs hS (inb_lt z8)).2.1) dX8_copy_43 rfl rfl (Nat.le_of_ble_eq_true rfl) ⟨Nat.le_of_ble_eq_true rfl, Nat.le_of_ble_eq_true rfl⟩ ⟨Nat.zero_le _, Nat.zero_le _⟩ ?_
        refine wg_if_eq X 52 dX8_copy_46 (by decide) (fun c14 => ?_) (fun c14 => ?_)
        · have h := if_t c14 h
          refine wg_aload X 1 dX8_copy_52 rfl ?_
          refine wg_getC X cl4 (SCs hS (inb_lt z7)).2.1 1 (by decide) dX8_copy_54 k_272 rfl ?_
          refine wg_aload X 0 dX8_copy_57 rfl ?_
          refine wg_getC X cl4 (SCs hS (inb_lt z8)).2.1 1 (by decide) dX8_copy_59 k_272 rfl ?_
          refine wg_icmp_eq X 68 dX8_copy_62 (by decide) (fun c15 => ?_) (fun c15 => ?_)
          · have h := if_t c15 h
            refine wg_aload X 1 dX8_copy_68 rfl ?_
            refine wg_iload_n X 4 dX8_copy_70 rfl rfl ?_
            refine wg_iload X 7 dX8_copy_71 rfl ?_
            obtain ⟨r17, h16, h⟩ := bd_some h
            refine wg_callVi (As := [.int p2, .int p5]) (rest := []) X (c_X4_hasRun l E ad S hS C M (44 + 2 * p1.toNatClampNeg) p2 p5 ((SCs hS (inb_lt z7)).2) h16) T_yX4_hasRun k_854 cl4 ((SCs hS (inb_lt z7)).2.1) dX8_copy_73 rfl rfl (Nat.le_of_ble_eq_true rfl) ⟨Nat.le_of_ble_eq_true rfl, Nat.le_of_ble_eq_true rfl⟩ ⟨Nat.zero_le _, Nat.zero_le _⟩ ?_
            refine wg_if_eq X 91 dX8_copy_76 (by decide) (fun c18 => ?_) (fun c18 => ?_)
            · have h := if_t c18 h
              refine wg_bipush (v := -12) X dX8_copy_91 (by decide) ?_
              exact wg_iret X ⟨(Prod.mk.inj (sm_inj h)).1, (Prod.mk.inj (sm_inj h)).2, rfl⟩ hr dX8_copy_93
            · have h := if_f c18 h
              refine wg_aload X 0 dX8_copy_79 rfl ?_
              refine wg_iload X 6 dX8_copy_81 rfl ?_
              refine wg_iload X 7 dX8_copy_83 rfl ?_
              obtain ⟨r20, h19, h⟩ := bd_some h
              refine wg_callVi (As := [.int p4, .int p5]) (rest := []) X (c_X4_hasRun l E ad S hS C M (44 + 2 * p3.toNatClampNeg) p4 p5 ((SCs hS (inb_lt z8)).2) h19) T_yX4_hasRun k_854 cl4 ((SCs hS (inb_lt z8)).2.1) dX8_copy_85 rfl rfl (Nat.le_of_ble_eq_true rfl) ⟨Nat.le_of_ble_eq_true rfl, Nat.le_of_ble_eq_true rfl⟩ ⟨Nat.zero_le _, Nat.zero_le _⟩ ?_
              refine wg_if_ne X 94 dX8_copy_88 (by decide) (fun c21 => ?_) (fun c21 => ?_)
              · have h := if_f c21 h
                refine wg_aload X 1 dX8_copy_94 rfl ?_
                refine wg_getR (b := (44 + 2 * p1.toNatClampNeg + 1)) X cl4 (SCs hS (inb_lt z7)).2.1 0 (by decide) dX8_copy_96 k_270 rfl (SCs hS (inb_lt z7)).2.2.1 ?_
                refine wg_iload_n X 4 dX8_copy_99 rfl rfl ?_
                refine wg_aload X 0 dX8_copy_100 rfl ?_
                refine wg_getR (b := (44 + 2 * p3.toNatClampNeg + 1)) X cl4 (SCs hS (inb_lt z8)).2.1 0 (by decide) dX8_copy_102 k_270 rfl (SCs hS (inb_lt z8)).2.2.1 ?_
                refine wg_iload X 6 dX8_copy_105 rfl ?_
                refine wg_iload X 7 dX8_copy_107 rfl ?_
                obtain ⟨z22, h⟩ := ck_some h
                obtain ⟨C23, e24, h⟩ := lt_some h
                refine wg_acopy X (SCs hS (inb_lt z7)).2.2.2.1 (SCs hS (inb_lt z7)).2.2.2.2 (SCs hS (inb_lt z8)).2.2.2.1 (SCs hS (inb_lt z8)).2.2.2.2 k_858 z22.1 z22.2.1 z22.2.2.1 z22.2.2.2.1 z22.2.2.2.2 ⟨Nat.le_of_ble_eq_true rfl, Nat.le_of_ble_eq_true rfl⟩ dX8_copy_109 e24 ?_
                refine wg_iload X 7 dX8_copy_112 rfl ?_
                exact wg_iret X ⟨(Prod.mk.inj (sm_inj h)).1, (Prod.mk.inj (sm_inj h)).2, rfl⟩ hr dX8_copy_114
              · have h := if_t c21 h
                refine wg_bipush (v := -12) X dX8_copy_91 (by decide) ?_
                exact wg_iret X ⟨(Prod.mk.inj (sm_inj h)).1, (Prod.mk.inj (sm_inj h)).2, rfl⟩ hr dX8_copy_93
          · have h := if_f c15 h
            refine wg_bipush (v := -13) X dX8_copy_65 (by decide) ?_
            exact wg_iret X ⟨(Prod.mk.inj (sm_inj h)).1, (Prod.mk.inj (sm_inj h)).2, rfl⟩ hr dX8_copy_67
        · have h := if_f c14 h
          refine wg_bipush (v := -11) X dX8_copy_49 (by decide) ?_
          exact wg_iret X ⟨(Prod.mk.inj (sm_inj h)).1, (Prod.mk.inj (sm_inj h)).2, rfl⟩ hr dX8_copy_51
    · have h := if_t c6 h
      refine wg_bipush (v := -2) X dX8_copy_14 (by decide) ?_
      exact wg_iret X ⟨(Prod.mk.inj (sm_inj h)).1, (Prod.mk.inj (sm_inj h)).2, rfl⟩ hr dX8_copy_16
-- WindowsGive.weathers(IIII)I (('c', 0), 'i', 'i', 'i', 'i')
def f_X8_weathers_l74 (N : Nat)  (x3 : Int32) (x4 : Int32) (x5 : Nat) (C : wg_C) (x6 : Int32) (x7 : Int32) : Option ((wg_C × Int32 × Int32) ⊕ ((wg_C × Int32 × Int32) ⊕ (Int32 × wg_C))) :=
  if x4 ≤ x7 then (
    some (.inr (.inl (C, x6, x7))))
  else (
    lt_ (x3 + ((2 : Int32) * x7)) fun v17 =>
    bd (f_X4_has C x5 v17) fun r20 =>
    if r20 = 0 then (
      some (.inr (.inr ((-12 : Int32), C))))
    else (
      bd (f_X4_has C x5 (v17 + (1 : Int32))) fun r23 =>
      if r23 = 0 then (
        some (.inr (.inr ((-12 : Int32), C))))
      else (
        ck (inb v17 40) <|
        ck (inb (v17 + (1 : Int32)) 40) <|
        bd2 (f_X8_set C (0 : Int32) (C (x5 + 1) v17.toNatClampNeg) (C (x5 + 1) (v17 + (1 : Int32)).toNatClampNeg)) fun r28 C29 =>
        if r28 = (-100 : Int32) then (
          lt_ (x7 + (1 : Int32)) fun v31 =>
          some (.inl (C29, x6, v31)))
        else (
          lt_ (x6 + (1 : Int32)) fun v33 =>
          lt_ (x7 + (1 : Int32)) fun v35 =>
          some (.inl (C29, v33, v35))))))
def f_X8_weathers_j57 (N : Nat) (C : wg_C)  (x3 : Int32) (x4 : Int32) (x5 : Nat) : Option (Int32 × wg_C) :=
  bd (f_X4_isMissing C x5) fun r14 =>
  if r14 = 0 then (
    bs3 (lp (fun o => f_X8_weathers_l74 N  x3 x4 x5 o.1 o.2.1 o.2.2) N (C, (0 : Int32), (0 : Int32))) (fun C37 v38 v39 =>
      some (v38, C37))
      (fun q42 => some q42))
  else (
    some ((-11 : Int32), C))
def f_X8_weathers (N : Nat) (C : wg_C) (p1 : Int32) (p2 : Int32) (p3 : Int32) (p4 : Int32) : Option (Int32 × wg_C) :=
  bd (f_X8_isSheet p1) fun r2 =>
  if r2 = 0 then (
    some ((-2 : Int32), C))
  else (
    bd (f_X8_isRowSort p2) fun r5 =>
    if r5 = 0 then (
      some ((-2 : Int32), C))
    else (
      if p4 < 0 then (
        some ((-2 : Int32), C))
      else (
        if p4 ≤ (20 : Int32) then (
          ck (inb p1 4) <|
          bd (f_X4_isMissing C (44 + 2 * p1.toNatClampNeg)) fun r11 =>
          if r11 = 0 then (
            if (C (44 + 2 * p1.toNatClampNeg) 1) = p2 then (
              f_X8_weathers_j57 N C  p3 p4 (44 + 2 * p1.toNatClampNeg))
            else (
              some ((-13 : Int32), C)))
          else (
            f_X8_weathers_j57 N C  p3 p4 (44 + 2 * p1.toNatClampNeg)))
        else (
          some ((-2 : Int32), C)))))
abbrev G_X8_weathers (p : Program) (l : Launch) (e : Env) (s : State) (m : MethodId) (args : Array Value) (below : List Frame) (meth : Method) (c : Code) (E : wg_Ev) (ad : Nat → Nat) (S : wg_Sh) (r0 : Int32) (C0 : wg_C) (M0 : wg_M) (pc : Nat) (C : wg_C) (M : wg_M) (lv : List (Nat × Value)) (st : List Value) : Prop := wg_G p l e (wg_Rm 4 87) s m args below meth c (MQ below (wg_Qi E ad S r0 C0 M0) args s 0 0 (wg_A E)) 9 E ad S 0 0 pc C M lv st
set_option maxHeartbeats 4000000 in
set_option maxRecDepth 100000 in
theorem L_X8_weathers_l74 {p : Program} {l : Launch} {e : Env} {s : State} {m : MethodId} {args : Array Value} {below : List Frame} {meth : Method} {c : Code} {E : wg_Ev} {ad : Nat → Nat} {S : wg_Sh} (X : wg_X p s m args meth c cX8_weathers 9 RX8 E) (hr : meth.sig.returnType = (some .int)) (hS : wg_SC S) (r0 : Int32) (D0 : wg_C) (M : wg_M) (N : Nat)   (x3 : Int32) (x4 : Int32) (x5 : Nat) (hx5 : wg_Sht S x5) : ∀ (n : Nat) (C : wg_C) (x6 : Int32) (x7 : Int32) (o : ((wg_C × Int32 × Int32) ⊕ (Int32 × wg_C))), lp (fun o => f_X8_weathers_l74 N  x3 x4 x5 o.1 o.2.1 o.2.2) n (C, x6, x7) = some o → (∀ (Dy : wg_C) (y6 : Int32) (y7 : Int32), o = Sum.inl (Dy, y6, y7) → G_X8_weathers p l e s m args below meth c E ad S r0 D0 M 151 Dy M [(0, .ref (ad 0)), (3, .int x3), (4, .int x4), (5, .ref (ad x5)), (6, .int y6), (7, .int y7)] []) → (∀ q : (Int32 × wg_C), o = Sum.inr q → q = (r0, D0)) → G_X8_weathers p l e s m args below meth c E ad S r0 D0 M 74 C M [(0, .ref (ad 0)), (3, .int x3), (4, .int x4), (5, .ref (ad x5)), (6, .int x6), (7, .int x7)] [] := by
  intro n
  induction n with
  | zero => exact fun _ _ _ o h => (lp_zero h).elim
  | succ n ih =>
    intro C x6 x7 o h K KR
    obtain ⟨o1, hb, h2⟩ := lp_some h
    replace hb : f_X8_weathers_l74 N  x3 x4 x5 C x6 x7 = some o1 := hb
    clear h
    have Kc : ∀ (Dy : wg_C) (y6 : Int32) (y7 : Int32), o1 = Sum.inl (Dy, y6, y7) → G_X8_weathers p l e s m args below meth c E ad S r0 D0 M 74 Dy M [(0, .ref (ad 0)), (3, .int x3), (4, .int x4), (5, .ref (ad x5)), (6, .int y6), (7, .int y7)] [] := fun Dy y6 y7 e1 => by
      subst e1
      exact ih Dy y6 y7 o h2 K KR
    have Ke : ∀ (Dy : wg_C) (y6 : Int32) (y7 : Int32), o1 = Sum.inr (Sum.inl (Dy, y6, y7)) → G_X8_weathers p l e s m args below meth c E ad S r0 D0 M 151 Dy M [(0, .ref (ad 0)), (3, .int x3), (4, .int x4), (5, .ref (ad x5)), (6, .int y6), (7, .int y7)] [] := fun Dy y6 y7 e1 => by
      subst e1
      exact K Dy y6 y7 (sm_inj (α := ((wg_C × Int32 × Int32) ⊕ (Int32 × wg_C))) h2).symm
    have Kr : ∀ q : (Int32 × wg_C), o1 = Sum.inr (Sum.inr q) → q = (r0, D0) := fun q e1 => by
      subst e1
      exact KR q (sm_inj (α := ((wg_C × Int32 × Int32) ⊕ (Int32 × wg_C))) h2).symm
    clear ih K h2 KR
    unfold f_X8_weathers_l74 at hb
    have h := hb
    clear hb
    refine wg_iload X 5 dX8_weathers_74 rfl ?_
    refine wg_iload X 2 dX8_weathers_76 rfl ?_
    refine wg_icmp_ge X 151 dX8_weathers_78 (by decide) (fun c16 => ?_) (fun c16 => ?_)
    · have h := if_t c16 h
      exact Ke C x6 x7 (sm_inj h).symm
    · have h := if_f c16 h
      refine wg_iload_n X 1 dX8_weathers_81 rfl rfl ?_
      refine wg_iconst (v := 2) X dX8_weathers_82 (by decide) ?_
      refine wg_iload X 5 dX8_weathers_83 rfl ?_
      refine wg_imul X dX8_weathers_85 ?_
      refine wg_iadd X dX8_weathers_86 ?_
      obtain ⟨v17, e18, h⟩ := lt_some h
      refine wg_istore (lv' := [(8, .int v17), (0, .ref (ad 0)), (3, .int x3), (4, .int x4), (5, .ref (ad x5)), (6, .int x6), (7, .int x7)]) X dX8_weathers_87 e18 (by decide) rfl ?_
      refine wg_aload X 4 dX8_weathers_89 rfl ?_
      refine wg_iload X 0 dX8_weathers_91 rfl ?_
      obtain ⟨r20, h19, h⟩ := bd_some h
      refine wg_callVi (As := [.int v17]) (rest := []) X (c_X4_has l E ad S hS C M x5 v17 hx5 h19) T_yX4_has k_846 cl4 hx5.1 dX8_weathers_93 rfl rfl (Nat.le_of_ble_eq_true rfl) ⟨Nat.le_of_ble_eq_true rfl, Nat.le_of_ble_eq_true rfl⟩ ⟨Nat.zero_le _, Nat.zero_le _⟩ ?_
      refine wg_if_eq X 111 dX8_weathers_96 (by decide) (fun c21 => ?_) (fun c21 => ?_)
      · have h := if_t c21 h
        refine wg_bipush (v := -12) X dX8_weathers_111 (by decide) ?_
        have hq := Kr _ (sm_inj h).symm
        exact wg_iret X ⟨(Prod.mk.inj hq).1, (Prod.mk.inj hq).2, rfl⟩ hr dX8_weathers_113
      · have h := if_f c21 h
        refine wg_aload X 4 dX8_weathers_99 rfl ?_
        refine wg_iload X 0 dX8_weathers_101 rfl ?_
        refine wg_iconst (v := 1) X dX8_weathers_103 (by decide) ?_
        refine wg_iadd X dX8_weathers_104 ?_
        obtain ⟨r23, h22, h⟩ := bd_some h
        refine wg_callVi (As := [.int (v17 + (1 : Int32))]) (rest := []) X (c_X4_has l E ad S hS C M x5 (v17 + (1 : Int32)) hx5 h22) T_yX4_has k_846 cl4 hx5.1 dX8_weathers_105 rfl rfl (Nat.le_of_ble_eq_true rfl) ⟨Nat.le_of_ble_eq_true rfl, Nat.le_of_ble_eq_true rfl⟩ ⟨Nat.zero_le _, Nat.zero_le _⟩ ?_
        refine wg_if_ne X 114 dX8_weathers_108 (by decide) (fun c24 => ?_) (fun c24 => ?_)
        · have h := if_f c24 h
          refine wg_aload_n X 1 dX8_weathers_114 rfl rfl ?_
          refine wg_iconst (v := 0) X dX8_weathers_115 (by decide) ?_
          refine wg_aload X 4 dX8_weathers_116 rfl ?_
          refine wg_getR (b := (x5 + 1)) X cl4 hx5.1 0 (by decide) dX8_weathers_118 k_270 rfl hx5.2.1 ?_
          refine wg_iload X 0 dX8_weathers_121 rfl ?_
          obtain ⟨z25, h⟩ := ck_some h
          refine wg_iald X hx5.2.2.1 hx5.2.2.2 z25 dX8_weathers_123 ?_
          refine wg_aload X 4 dX8_weathers_124 rfl ?_
          refine wg_getR (b := (x5 + 1)) X cl4 hx5.1 0 (by decide) dX8_weathers_126 k_270 rfl hx5.2.1 ?_
          refine wg_iload X 0 dX8_weathers_129 rfl ?_
          refine wg_iconst (v := 1) X dX8_weathers_131 (by decide) ?_
          refine wg_iadd X dX8_weathers_132 ?_
          obtain ⟨z26, h⟩ := ck_some h
          refine wg_iald X hx5.2.2.1 hx5.2.2.2 z26 dX8_weathers_133 ?_
          obtain ⟨r28, C29, h27, h⟩ := bd2_some h
          refine wg_callVi (As := [.int (0 : Int32), .int (C (x5 + 1) v17.toNatClampNeg), .int (C (x5 + 1) (v17 + (1 : Int32)).toNatClampNeg)]) (rest := []) X (c_X8_set l E ad S hS C M (0 : Int32) (C (x5 + 1) v17.toNatClampNeg) (C (x5 + 1) (v17 + (1 : Int32)).toNatClampNeg)  h27) T_yX8_set k_863 cl8 (SCi hS 0 8 rfl) dX8_weathers_134 rfl rfl (Nat.le_of_ble_eq_true rfl) ⟨Nat.le_of_ble_eq_true rfl, Nat.le_of_ble_eq_true rfl⟩ ⟨Nat.zero_le _, Nat.zero_le _⟩ ?_
          refine wg_bipush (v := -100) X dX8_weathers_137 (by decide) ?_
          refine wg_icmp_eq X 145 dX8_weathers_139 (by decide) (fun c30 => ?_) (fun c30 => ?_)
          · have h := if_t c30 h
            obtain ⟨v31, e32, h⟩ := lt_some h
            refine wg_iinc (lv' := [(7, .int v31), (8, .int v17), (0, .ref (ad 0)), (3, .int x3), (4, .int x4), (5, .ref (ad x5)), (6, .int x6)]) X 6 dX8_weathers_145 rfl e32 (by decide) rfl ?_
            refine wg_goto X 74 dX8_weathers_148 (by decide) ?_
            refine wg_pick [2, 3, 4, 5, 6, 0] (lv' := [(0, .ref (ad 0)), (3, .int x3), (4, .int x4), (5, .ref (ad x5)), (6, .int x6), (7, .int v31)]) rfl ?_
            exact Kc C29 x6 v31 (sm_inj h).symm
          · have h := if_f c30 h
            obtain ⟨v33, e34, h⟩ := lt_some h
            refine wg_iinc (lv' := [(6, .int v33), (8, .int v17), (0, .ref (ad 0)), (3, .int x3), (4, .int x4), (5, .ref (ad x5)), (7, .int x7)]) X 5 dX8_weathers_142 rfl e34 (by decide) rfl ?_
            obtain ⟨v35, e36, h⟩ := lt_some h
            refine wg_iinc (lv' := [(7, .int v35), (6, .int v33), (8, .int v17), (0, .ref (ad 0)), (3, .int x3), (4, .int x4), (5, .ref (ad x5))]) X 6 dX8_weathers_145 rfl e36 (by decide) rfl ?_
            refine wg_goto X 74 dX8_weathers_148 (by decide) ?_
            refine wg_pick [3, 4, 5, 6, 1, 0] (lv' := [(0, .ref (ad 0)), (3, .int x3), (4, .int x4), (5, .ref (ad x5)), (6, .int v33), (7, .int v35)]) rfl ?_
            exact Kc C29 v33 v35 (sm_inj h).symm
        · have h := if_t c24 h
          refine wg_bipush (v := -12) X dX8_weathers_111 (by decide) ?_
          have hq := Kr _ (sm_inj h).symm
          exact wg_iret X ⟨(Prod.mk.inj hq).1, (Prod.mk.inj hq).2, rfl⟩ hr dX8_weathers_113
set_option maxHeartbeats 4000000 in
set_option maxRecDepth 100000 in
theorem J_X8_weathers_j57 {p : Program} {l : Launch} {e : Env} {s : State} {m : MethodId} {args : Array Value} {below : List Frame} {meth : Method} {c : Code} {E : wg_Ev} {ad : Nat → Nat} {S : wg_Sh} (X : wg_X p s m args meth c cX8_weathers 9 RX8 E) (hr : meth.sig.returnType = (some .int)) (hS : wg_SC S) (r0 : Int32) (D0 : wg_C) (M : wg_M) (N : Nat)  (C : wg_C)  (x3 : Int32) (x4 : Int32) (x5 : Nat) (hx5 : wg_Sht S x5)  (h : f_X8_weathers_j57 N C  x3 x4 x5 = some (r0, D0)) : G_X8_weathers p l e s m args below meth c E ad S r0 D0 M 57 C M [(0, .ref (ad 0)), (3, .int x3), (4, .int x4), (5, .ref (ad x5))] [] := by
  unfold f_X8_weathers_j57 at h
  refine wg_aload X 3 dX8_weathers_57 rfl ?_
  obtain ⟨r14, h13, h⟩ := bd_some h
  refine wg_callVi (As := []) (rest := []) X (c_X4_isMissing l E ad S hS C M x5 hx5 h13) T_yX4_isMissing k_714 cl4 hx5.1 dX8_weathers_59 rfl rfl (Nat.le_of_ble_eq_true rfl) ⟨Nat.le_of_ble_eq_true rfl, Nat.le_of_ble_eq_true rfl⟩ ⟨Nat.zero_le _, Nat.zero_le _⟩ ?_
  refine wg_if_eq X 68 dX8_weathers_62 (by decide) (fun c15 => ?_) (fun c15 => ?_)
  · have h := if_t c15 h
    refine wg_iconst (v := 0) X dX8_weathers_68 (by decide) ?_
    refine wg_istore (lv' := [(6, .int (0 : Int32)), (0, .ref (ad 0)), (3, .int x3), (4, .int x4), (5, .ref (ad x5))]) X dX8_weathers_69 rfl (by decide) rfl ?_
    refine wg_iconst (v := 0) X dX8_weathers_71 (by decide) ?_
    refine wg_istore (lv' := [(7, .int (0 : Int32)), (6, .int (0 : Int32)), (0, .ref (ad 0)), (3, .int x3), (4, .int x4), (5, .ref (ad x5))]) X dX8_weathers_72 rfl (by decide) rfl ?_
    obtain ⟨o40, h41, h⟩ := bs3_o h
    refine wg_pick [2, 3, 4, 5, 1, 0] (lv' := [(0, .ref (ad 0)), (3, .int x3), (4, .int x4), (5, .ref (ad x5)), (6, .int (0 : Int32)), (7, .int (0 : Int32))]) rfl ?_
    refine L_X8_weathers_l74 X hr hS r0 D0 M N   x3 x4 x5 hx5 N C (0 : Int32) (0 : Int32) o40 h41 (fun C37 v38 v39 e43 => ?_) (fun q42 e43 => ?_)
    · subst o40
      replace h := bs3_in h
      refine wg_iload X 4 dX8_weathers_151 rfl ?_
      exact wg_iret X ⟨(Prod.mk.inj (sm_inj h)).1, (Prod.mk.inj (sm_inj h)).2, rfl⟩ hr dX8_weathers_153
    · subst o40
      replace h := bs3_r h
      exact sm_inj h
  · have h := if_f c15 h
    refine wg_bipush (v := -11) X dX8_weathers_65 (by decide) ?_
    exact wg_iret X ⟨(Prod.mk.inj (sm_inj h)).1, (Prod.mk.inj (sm_inj h)).2, rfl⟩ hr dX8_weathers_67
set_option maxHeartbeats 4000000 in
set_option maxRecDepth 100000 in
theorem c_X8_weathers (l : Launch) (E : wg_Ev) (ad : Nat → Nat) (S : wg_Sh) (hS : wg_SC S) (N : Nat) (C : wg_C) (M : wg_M) (p1 : Int32) (p2 : Int32) (p3 : Int32) (p4 : Int32)  {r0 : Int32} {D0 : wg_C} (h : f_X8_weathers N C p1 p2 p3 p4 = some (r0, D0)) : wg_Ci l yX8_weathers cX8_weathers 9 (some .int) 4 87 E ad S C M [.ref (ad 0), .int p1, .int p2, .int p3, .int p4] r0 D0 M := by
  refine wg_start (own := RX8) (by decide +kernel) rfl (Nat.le_of_ble_eq_true rfl) ?_
  intro p e s m below meth c X hr hnm
  refine wg_lv (lv' := [(0, .ref (ad 0)), (1, .int p1), (2, .int p2), (3, .int p3), (4, .int p4)]) rfl ?_
  unfold f_X8_weathers at h
  refine wg_iload_n X 1 dX8_weathers_0 rfl rfl ?_
  obtain ⟨r2, h1, h⟩ := bd_some h
  refine wg_callSi (As := [.int p1]) (rest := []) X (c_X8_isSheet l E ad S C M p1  h1) T_yX8_isSheet k_711 dX8_weathers_1 rfl rfl (Nat.le_of_ble_eq_true rfl) ⟨Nat.le_of_ble_eq_true rfl, Nat.le_of_ble_eq_true rfl⟩ ⟨Nat.zero_le _, Nat.zero_le _⟩ ?_
  refine wg_if_eq X 26 dX8_weathers_4 (by decide) (fun c3 => ?_) (fun c3 => ?_)
  · have h := if_t c3 h
    refine wg_bipush (v := -2) X dX8_weathers_26 (by decide) ?_
    exact wg_iret X ⟨(Prod.mk.inj (sm_inj h)).1, (Prod.mk.inj (sm_inj h)).2, rfl⟩ hr dX8_weathers_28
  · have h := if_f c3 h
    refine wg_iload_n X 2 dX8_weathers_7 rfl rfl ?_
    obtain ⟨r5, h4, h⟩ := bd_some h
    refine wg_callSi (As := [.int p2]) (rest := []) X (c_X8_isRowSort l E ad S C M p2  h4) T_yX8_isRowSort k_839 dX8_weathers_8 rfl rfl (Nat.le_of_ble_eq_true rfl) ⟨Nat.le_of_ble_eq_true rfl, Nat.le_of_ble_eq_true rfl⟩ ⟨Nat.zero_le _, Nat.zero_le _⟩ ?_
    refine wg_if_eq X 26 dX8_weathers_11 (by decide) (fun c6 => ?_) (fun c6 => ?_)
    · have h := if_t c6 h
      refine wg_bipush (v := -2) X dX8_weathers_26 (by decide) ?_
      exact wg_iret X ⟨(Prod.mk.inj (sm_inj h)).1, (Prod.mk.inj (sm_inj h)).2, rfl⟩ hr dX8_weathers_28
    · have h := if_f c6 h
      refine wg_iload X 4 dX8_weathers_14 rfl ?_
      refine wg_if_lt X 26 dX8_weathers_16 (by decide) (fun c7 => ?_) (fun c7 => ?_)
      · have h := if_t c7 h
        refine wg_bipush (v := -2) X dX8_weathers_26 (by decide) ?_
        exact wg_iret X ⟨(Prod.mk.inj (sm_inj h)).1, (Prod.mk.inj (sm_inj h)).2, rfl⟩ hr dX8_weathers_28
      · have h := if_f c7 h
        refine wg_iload X 4 dX8_weathers_19 rfl ?_
        refine wg_bipush (v := 20) X dX8_weathers_21 (by decide) ?_
        refine wg_icmp_le X 29 dX8_weathers_23 (by decide) (fun c8 => ?_) (fun c8 => ?_)
        · have h := if_t c8 h
          refine wg_aload_n X 0 dX8_weathers_29 rfl rfl ?_
          refine wg_getR (b := 39) X cl8 (SCi hS 0 8 rfl) 7 (by decide) dX8_weathers_30 k_479 rfl (SCr hS 0 7 39 rfl) ?_
          refine wg_iload_n X 1 dX8_weathers_33 rfl rfl ?_
          obtain ⟨z9, h⟩ := ck_some h
          refine wg_aalS14 (b := 44 + 2 * p1.toNatClampNeg) X (SCi hS 39 14 rfl) (SCl hS 39 4 rfl) z9 (SCs hS (inb_lt z9)).1 dX8_weathers_34 ?_
          refine wg_astore (lv' := [(5, .ref (ad (44 + 2 * p1.toNatClampNeg))), (0, .ref (ad 0)), (1, .int p1), (2, .int p2), (3, .int p3), (4, .int p4)]) X dX8_weathers_35 rfl (by decide) rfl ?_
          refine wg_aload X 0 dX8_weathers_37 rfl ?_
          obtain ⟨r11, h10, h⟩ := bd_some h
          refine wg_callVi (As := []) (rest := []) X (c_X4_isMissing l E ad S hS C M (44 + 2 * p1.toNatClampNeg) ((SCs hS (inb_lt z9)).2) h10) T_yX4_isMissing k_714 cl4 ((SCs hS (inb_lt z9)).2.1) dX8_weathers_39 rfl rfl (Nat.le_of_ble_eq_true rfl) ⟨Nat.le_of_ble_eq_true rfl, Nat.le_of_ble_eq_true rfl⟩ ⟨Nat.zero_le _, Nat.zero_le _⟩ ?_
          refine wg_if_ne X 57 dX8_weathers_42 (by decide) (fun c12 => ?_) (fun c12 => ?_)
          · have h := if_f c12 h
            refine wg_pick [1, 4, 5, 0] (lv' := [(0, .ref (ad 0)), (3, .int p3), (4, .int p4), (5, .ref (ad (44 + 2 * p1.toNatClampNeg)))]) rfl ?_
            exact J_X8_weathers_j57 X hr hS r0 D0 M N  C  p3 p4 (44 + 2 * p1.toNatClampNeg) ((SCs hS (inb_lt z9)).2)  h
          · have h := if_t c12 h
            refine wg_aload X 0 dX8_weathers_45 rfl ?_
            refine wg_getC X cl4 (SCs hS (inb_lt z9)).2.1 1 (by decide) dX8_weathers_47 k_272 rfl ?_
            refine wg_iload_n X 3 dX8_weathers_50 rfl rfl ?_
            refine wg_icmp_eq X 57 dX8_weathers_51 (by decide) (fun c44 => ?_) (fun c44 => ?_)
            · have h := if_t c44 h
              refine wg_pick [1, 4, 5, 0] (lv' := [(0, .ref (ad 0)), (3, .int p3), (4, .int p4), (5, .ref (ad (44 + 2 * p1.toNatClampNeg)))]) rfl ?_
              exact J_X8_weathers_j57 X hr hS r0 D0 M N  C  p3 p4 (44 + 2 * p1.toNatClampNeg) ((SCs hS (inb_lt z9)).2)  h
            · have h := if_f c44 h
              refine wg_bipush (v := -13) X dX8_weathers_54 (by decide) ?_
              exact wg_iret X ⟨(Prod.mk.inj (sm_inj h)).1, (Prod.mk.inj (sm_inj h)).2, rfl⟩ hr dX8_weathers_56
        · have h := if_f c8 h
          refine wg_bipush (v := -2) X dX8_weathers_26 (by decide) ?_
          exact wg_iret X ⟨(Prod.mk.inj (sm_inj h)).1, (Prod.mk.inj (sm_inj h)).2, rfl⟩ hr dX8_weathers_28
-- WindowsGive.isUnder(II)Z ('i', 'i')
def f_X8_isUnder_l4 (N : Nat) (C : wg_C)  (x1 : Int32) (x2 : Int32) (x3 : Int32) : Option ((Int32 × Int32) ⊕ ((Int32 × Int32) ⊕ Int32)) :=
  if (6 : Int32) ≤ x3 then (
    some (.inr (.inl (x2, x3))))
  else (
    bd (f_X8_isKind x2) fun r3 =>
    if r3 = 0 then (
      some (.inr (.inl (x2, x3))))
    else (
      if x2 = x1 then (
        some (.inr (.inr (1 : Int32))))
      else (
        ck (inb x2 6) <|
        lt_ (wg_above.getD x2.toNatClampNeg 0) fun v7 =>
        lt_ (x3 + (1 : Int32)) fun v9 =>
        some (.inl (v7, v9)))))
def f_X8_isUnder (N : Nat) (C : wg_C) (p0 : Int32) (p1 : Int32) : Option Int32 :=
  bs2 (lp (fun o => f_X8_isUnder_l4 N C  p1 o.1 o.2) N (p0, (0 : Int32))) (fun v11 v12 =>
    some (0 : Int32))
    (fun q15 => some q15)
abbrev G_X8_isUnder (p : Program) (l : Launch) (e : Env) (s : State) (m : MethodId) (args : Array Value) (below : List Frame) (meth : Method) (c : Code) (E : wg_Ev) (ad : Nat → Nat) (S : wg_Sh) (r0 : Int32) (C0 : wg_C) (M0 : wg_M) (pc : Nat) (C : wg_C) (M : wg_M) (lv : List (Nat × Value)) (st : List Value) : Prop := wg_G p l e (wg_Rm 1 20) s m args below meth c (MQ below (wg_Qi E ad S r0 C0 M0) args s 0 0 (wg_A E)) 4 E ad S 0 0 pc C M lv st
set_option maxHeartbeats 4000000 in
set_option maxRecDepth 100000 in
theorem L_X8_isUnder_l4 {p : Program} {l : Launch} {e : Env} {s : State} {m : MethodId} {args : Array Value} {below : List Frame} {meth : Method} {c : Code} {E : wg_Ev} {ad : Nat → Nat} {S : wg_Sh} (X : wg_X p s m args meth c cX8_isUnder 4 RX8 E) (hr : meth.sig.returnType = (some .boolean)) (hS : wg_SC S) (r0 : Int32) (M : wg_M) (N : Nat)  (C : wg_C)  (x1 : Int32)  : ∀ (n : Nat) (x2 : Int32) (x3 : Int32) (o : ((Int32 × Int32) ⊕ Int32)), lp (fun o => f_X8_isUnder_l4 N C  x1 o.1 o.2) n (x2, x3) = some o → (∀ (y2 : Int32) (y3 : Int32), o = Sum.inl (y2, y3) → G_X8_isUnder p l e s m args below meth c E ad S r0 C M 38 C M [(1, .int x1), (2, .int y2), (3, .int y3)] []) → (∀ q : Int32, o = Sum.inr q → q = r0) → G_X8_isUnder p l e s m args below meth c E ad S r0 C M 4 C M [(1, .int x1), (2, .int x2), (3, .int x3)] [] := by
  intro n
  induction n with
  | zero => exact fun _ _ o h => (lp_zero h).elim
  | succ n ih =>
    intro x2 x3 o h K KR
    obtain ⟨o1, hb, h2⟩ := lp_some h
    replace hb : f_X8_isUnder_l4 N C  x1 x2 x3 = some o1 := hb
    clear h
    have Kc : ∀ (y2 : Int32) (y3 : Int32), o1 = Sum.inl (y2, y3) → G_X8_isUnder p l e s m args below meth c E ad S r0 C M 4 C M [(1, .int x1), (2, .int y2), (3, .int y3)] [] := fun y2 y3 e1 => by
      subst e1
      exact ih y2 y3 o h2 K KR
    have Ke : ∀ (y2 : Int32) (y3 : Int32), o1 = Sum.inr (Sum.inl (y2, y3)) → G_X8_isUnder p l e s m args below meth c E ad S r0 C M 38 C M [(1, .int x1), (2, .int y2), (3, .int y3)] [] := fun y2 y3 e1 => by
      subst e1
      exact K y2 y3 (sm_inj (α := ((Int32 × Int32) ⊕ Int32)) h2).symm
    have Kr : ∀ q : Int32, o1 = Sum.inr (Sum.inr q) → q = r0 := fun q e1 => by
      subst e1
      exact KR q (sm_inj (α := ((Int32 × Int32) ⊕ Int32)) h2).symm
    clear ih K h2 KR
    unfold f_X8_isUnder_l4 at hb
    have h := hb
    clear hb
    refine wg_iload_n X 2 dX8_isUnder_4 rfl rfl ?_
    refine wg_kab X dX8_isUnder_5 k_871 ?_
    refine wg_kabLen X dX8_isUnder_8 ?_
    refine wg_icmp_ge X 38 dX8_isUnder_9 (by decide) (fun c1 => ?_) (fun c1 => ?_)
    · have h := if_t c1 h
      exact Ke x2 x3 (sm_inj h).symm
    · have h := if_f c1 h
      refine wg_iload_n X 1 dX8_isUnder_12 rfl rfl ?_
      obtain ⟨r3, h2, h⟩ := bd_some h
      refine wg_callSi (As := [.int x2]) (rest := []) X (c_X8_isKind l E ad S C M x2  h2) T_yX8_isKind k_546 dX8_isUnder_13 rfl rfl (Nat.le_of_ble_eq_true rfl) ⟨Nat.le_of_ble_eq_true rfl, Nat.le_of_ble_eq_true rfl⟩ ⟨Nat.zero_le _, Nat.zero_le _⟩ ?_
      refine wg_if_eq X 38 dX8_isUnder_16 (by decide) (fun c4 => ?_) (fun c4 => ?_)
      · have h := if_t c4 h
        exact Ke x2 x3 (sm_inj h).symm
      · have h := if_f c4 h
        refine wg_iload_n X 1 dX8_isUnder_19 rfl rfl ?_
        refine wg_iload_n X 0 dX8_isUnder_20 rfl rfl ?_
        refine wg_icmp_ne X 26 dX8_isUnder_21 (by decide) (fun c5 => ?_) (fun c5 => ?_)
        · have h := if_f c5 h
          refine wg_kab X dX8_isUnder_26 k_871 ?_
          refine wg_iload_n X 1 dX8_isUnder_29 rfl rfl ?_
          obtain ⟨z6, h⟩ := ck_some h
          refine wg_kabLd X z6 dX8_isUnder_30 ?_
          obtain ⟨v7, e8, h⟩ := lt_some h
          refine wg_istore_n (lv' := [(2, .int v7), (1, .int x1), (3, .int x3)]) X dX8_isUnder_31 rfl e8 (by decide) rfl ?_
          obtain ⟨v9, e10, h⟩ := lt_some h
          refine wg_iinc (lv' := [(3, .int v9), (2, .int v7), (1, .int x1)]) X 2 dX8_isUnder_32 rfl e10 (by decide) rfl ?_
          refine wg_goto X 4 dX8_isUnder_35 (by decide) ?_
          refine wg_pick [2, 1, 0] (lv' := [(1, .int x1), (2, .int v7), (3, .int v9)]) rfl ?_
          exact Kc v7 v9 (sm_inj h).symm
        · have h := if_t c5 h
          refine wg_iconst (v := 1) X dX8_isUnder_24 (by decide) ?_
          have hq := Kr _ (sm_inj h).symm
          exact wg_zret X ⟨hq, rfl, rfl⟩ hr (by decide) dX8_isUnder_25
set_option maxHeartbeats 4000000 in
set_option maxRecDepth 100000 in
theorem c_X8_isUnder (l : Launch) (E : wg_Ev) (ad : Nat → Nat) (S : wg_Sh) (hS : wg_SC S) (N : Nat) (C : wg_C) (M : wg_M) (p0 : Int32) (p1 : Int32)  {r0 : Int32} (h : f_X8_isUnder N C p0 p1 = some r0) : wg_Ci l yX8_isUnder cX8_isUnder 4 (some .boolean) 1 20 E ad S C M [.int p0, .int p1] r0 C M := by
  refine wg_start (own := RX8) (by decide +kernel) rfl (Nat.le_of_ble_eq_true rfl) ?_
  intro p e s m below meth c X hr hnm
  refine wg_lv (lv' := [(0, .int p0), (1, .int p1)]) rfl ?_
  unfold f_X8_isUnder at h
  refine wg_iload_n X 0 dX8_isUnder_0 rfl rfl ?_
  refine wg_istore_n (lv' := [(2, .int p0), (0, .int p0), (1, .int p1)]) X dX8_isUnder_1 rfl rfl (by decide) rfl ?_
  refine wg_iconst (v := 0) X dX8_isUnder_2 (by decide) ?_
  refine wg_istore_n (lv' := [(3, .int (0 : Int32)), (2, .int p0), (0, .int p0), (1, .int p1)]) X dX8_isUnder_3 rfl rfl (by decide) rfl ?_
  obtain ⟨o13, h14, h⟩ := bs2_o h
  refine wg_pick [3, 1, 0] (lv' := [(1, .int p1), (2, .int p0), (3, .int (0 : Int32))]) rfl ?_
  refine L_X8_isUnder_l4 X hr hS r0 M N  C  p1  N p0 (0 : Int32) o13 h14 (fun v11 v12 e16 => ?_) (fun q15 e16 => ?_)
  · subst o13
    replace h := bs2_in h
    refine wg_iconst (v := 0) X dX8_isUnder_38 (by decide) ?_
    exact wg_zret X ⟨(sm_inj h), rfl, rfl⟩ hr (by decide) dX8_isUnder_39
  · subst o13
    replace h := bs2_r h
    exact sm_inj h
-- WindowsGive.taken(II)I (('c', 0), 'i', 'i')
def f_X8_taken (N : Nat) (C : wg_C) (p1 : Int32) (p2 : Int32) : Option Int32 :=
  bd (f_X8_isKind p2) fun r2 =>
  if r2 = 0 then (
    some (-2 : Int32))
  else (
    bd (f_X0_has C p1) fun r5 =>
    if r5 = 0 then (
      some (-11 : Int32))
    else (
      ck (inb p1 8) <|
      bd (f_X8_isUnder N C (C (4 + p1.toNatClampNeg) 1) p2) fun r9 =>
      if r9 = 0 then (
        some (-13 : Int32))
      else (
        some (C (4 + p1.toNatClampNeg) 2))))
set_option maxHeartbeats 4000000 in
set_option maxRecDepth 100000 in
theorem c_X8_taken (l : Launch) (E : wg_Ev) (ad : Nat → Nat) (S : wg_Sh) (hS : wg_SC S) (N : Nat) (C : wg_C) (M : wg_M) (p1 : Int32) (p2 : Int32)  {r0 : Int32} (h : f_X8_taken N C p1 p2 = some r0) : wg_Ci l yX8_taken cX8_taken 4 (some .int) 2 43 E ad S C M [.ref (ad 0), .int p1, .int p2] r0 C M := by
  refine wg_start (own := RX8) (by decide +kernel) rfl (Nat.le_of_ble_eq_true rfl) ?_
  intro p e s m below meth c X hr hnm
  refine wg_lv (lv' := [(0, .ref (ad 0)), (1, .int p1), (2, .int p2)]) rfl ?_
  unfold f_X8_taken at h
  refine wg_iload_n X 2 dX8_taken_0 rfl rfl ?_
  obtain ⟨r2, h1, h⟩ := bd_some h
  refine wg_callSi (As := [.int p2]) (rest := []) X (c_X8_isKind l E ad S C M p2  h1) T_yX8_isKind k_546 dX8_taken_1 rfl rfl (Nat.le_of_ble_eq_true rfl) ⟨Nat.le_of_ble_eq_true rfl, Nat.le_of_ble_eq_true rfl⟩ ⟨Nat.zero_le _, Nat.zero_le _⟩ ?_
  refine wg_if_ne X 10 dX8_taken_4 (by decide) (fun c3 => ?_) (fun c3 => ?_)
  · have h := if_f c3 h
    refine wg_aload_n X 0 dX8_taken_10 rfl rfl ?_
    refine wg_getR (b := 1) X cl8 (SCi hS 0 8 rfl) 0 (by decide) dX8_taken_11 k_472 rfl (SCr hS 0 0 1 rfl) ?_
    refine wg_iload_n X 1 dX8_taken_14 rfl rfl ?_
    obtain ⟨r5, h4, h⟩ := bd_some h
    refine wg_callVi (As := [.int p1]) (rest := []) X (c_X0_has l E ad S hS C M p1  h4) T_yX0_has k_520 cl0 (SCi hS 1 0 rfl) dX8_taken_15 rfl rfl (Nat.le_of_ble_eq_true rfl) ⟨Nat.le_of_ble_eq_true rfl, Nat.le_of_ble_eq_true rfl⟩ ⟨Nat.zero_le _, Nat.zero_le _⟩ ?_
    refine wg_if_ne X 24 dX8_taken_18 (by decide) (fun c6 => ?_) (fun c6 => ?_)
    · have h := if_f c6 h
      refine wg_aload_n X 0 dX8_taken_24 rfl rfl ?_
      refine wg_getR (b := 1) X cl8 (SCi hS 0 8 rfl) 0 (by decide) dX8_taken_25 k_472 rfl (SCr hS 0 0 1 rfl) ?_
      refine wg_getR (b := 3) X cl0 (SCi hS 1 0 rfl) 1 (by decide) dX8_taken_28 k_144 rfl (SCr hS 1 1 3 rfl) ?_
      refine wg_iload_n X 1 dX8_taken_31 rfl rfl ?_
      obtain ⟨z7, h⟩ := ck_some h
      refine wg_aalS13 (b := 4 + p1.toNatClampNeg) X (SCi hS 3 13 rfl) (SCl hS 3 8 rfl) z7 (SCp hS (inb_lt z7)).1 dX8_taken_32 ?_
      refine wg_astore_n (lv' := [(3, .ref (ad (4 + p1.toNatClampNeg))), (0, .ref (ad 0)), (1, .int p1), (2, .int p2)]) X dX8_taken_33 rfl rfl (by decide) rfl ?_
      refine wg_aload_n X 0 dX8_taken_34 rfl rfl ?_
      refine wg_getC X cl1 (SCp hS (inb_lt z7)).2.1 1 (by decide) dX8_taken_35 k_113 rfl ?_
      refine wg_iload_n X 3 dX8_taken_38 rfl rfl ?_
      obtain ⟨r9, h8, h⟩ := bd_some h
      refine wg_callSi (As := [.int (C (4 + p1.toNatClampNeg) 1), .int p2]) (rest := []) X (c_X8_isUnder l E ad S hS N C M (C (4 + p1.toNatClampNeg) 1) p2  h8) T_yX8_isUnder k_868 dX8_taken_39 rfl rfl (Nat.le_of_ble_eq_true rfl) ⟨Nat.le_of_ble_eq_true rfl, Nat.le_of_ble_eq_true rfl⟩ ⟨Nat.zero_le _, Nat.zero_le _⟩ ?_
      refine wg_if_eq X 52 dX8_taken_42 (by decide) (fun c10 => ?_) (fun c10 => ?_)
      · have h := if_t c10 h
        refine wg_bipush (v := -13) X dX8_taken_52 (by decide) ?_
        exact wg_iret X ⟨(sm_inj h), rfl, rfl⟩ hr dX8_taken_54
      · have h := if_f c10 h
        refine wg_aload_n X 0 dX8_taken_45 rfl rfl ?_
        refine wg_getC X cl1 (SCp hS (inb_lt z7)).2.1 2 (by decide) dX8_taken_46 k_116 rfl ?_
        refine wg_goto X 54 dX8_taken_49 (by decide) ?_
        exact wg_iret X ⟨(sm_inj h), rfl, rfl⟩ hr dX8_taken_54
    · have h := if_t c6 h
      refine wg_bipush (v := -11) X dX8_taken_21 (by decide) ?_
      exact wg_iret X ⟨(sm_inj h), rfl, rfl⟩ hr dX8_taken_23
  · have h := if_t c3 h
    refine wg_bipush (v := -2) X dX8_taken_7 (by decide) ?_
    exact wg_iret X ⟨(sm_inj h), rfl, rfl⟩ hr dX8_taken_9
-- WindowsGiveModel.in(JJJ)Z ('l', 'l', 'l')
def f_X9_in (p0 : Int64) (p1 : Int64) (p2 : Int64) : Option Int32 :=
  if (lg_cmp p0 p1) < 0 then (
    some (0 : Int32))
  else (
    if 0 < (lg_cmp p0 p2) then (
      some (0 : Int32))
    else (
      some (1 : Int32)))
set_option maxHeartbeats 4000000 in
set_option maxRecDepth 100000 in
theorem c_X9_in (l : Launch) (E : wg_Ev) (ad : Nat → Nat) (S : wg_Sh) (C : wg_C) (M : wg_M) (p0 : Int64) (p1 : Int64) (p2 : Int64)  {r0 : Int32} (h : f_X9_in p0 p1 p2 = some r0) : wg_Ci l yX9_in cX9_in 6 (some .boolean) 0 0 E ad S C M [.long p0, .long p1, .long p2] r0 C M := by
  refine wg_start (own := RX9) (by decide +kernel) rfl (Nat.le_of_ble_eq_true rfl) ?_
  intro p e s m below meth c X hr hnm
  refine wg_lv (lv' := [(0, .long p0), (2, .long p1), (4, .long p2)]) rfl ?_
  unfold f_X9_in at h
  refine wg_lload_n X 0 dX9_in_0 rfl rfl ?_
  refine wg_lload_n X 1 dX9_in_1 rfl rfl ?_
  refine wg_lcmp X dX9_in_2 ?_
  refine wg_if_lt X 17 dX9_in_3 (by decide) (fun c1 => ?_) (fun c1 => ?_)
  · have h := if_t c1 h
    refine wg_iconst (v := 0) X dX9_in_17 (by decide) ?_
    exact wg_zret X ⟨(sm_inj h), rfl, rfl⟩ hr (by decide) dX9_in_18
  · have h := if_f c1 h
    refine wg_lload_n X 0 dX9_in_6 rfl rfl ?_
    refine wg_lload X 2 dX9_in_7 rfl ?_
    refine wg_lcmp X dX9_in_9 ?_
    refine wg_if_gt X 17 dX9_in_10 (by decide) (fun c2 => ?_) (fun c2 => ?_)
    · have h := if_t c2 h
      refine wg_iconst (v := 0) X dX9_in_17 (by decide) ?_
      exact wg_zret X ⟨(sm_inj h), rfl, rfl⟩ hr (by decide) dX9_in_18
    · have h := if_f c2 h
      refine wg_iconst (v := 1) X dX9_in_13 (by decide) ?_
      refine wg_goto X 18 dX9_in_14 (by decide) ?_
      exact wg_zret X ⟨(sm_inj h), rfl, rfl⟩ hr (by decide) dX9_in_18
-- WindowsGiveModel.within(III)I ('i', 'i', 'i')
def f_X9_within (p0 : Int32) (p1 : Int32) (p2 : Int32) : Option Int32 :=
  if p1 ≤ p0 then (
    if p0 ≤ p2 then (
      some p0)
    else (
      some p2))
  else (
    some p1)
set_option maxHeartbeats 4000000 in
set_option maxRecDepth 100000 in
theorem c_X9_within (l : Launch) (E : wg_Ev) (ad : Nat → Nat) (S : wg_Sh) (C : wg_C) (M : wg_M) (p0 : Int32) (p1 : Int32) (p2 : Int32)  {r0 : Int32} (h : f_X9_within p0 p1 p2 = some r0) : wg_Ci l yX9_within cX9_within 3 (some .int) 0 0 E ad S C M [.int p0, .int p1, .int p2] r0 C M := by
  refine wg_start (own := RX9) (by decide +kernel) rfl (Nat.le_of_ble_eq_true rfl) ?_
  intro p e s m below meth c X hr hnm
  refine wg_lv (lv' := [(0, .int p0), (1, .int p1), (2, .int p2)]) rfl ?_
  unfold f_X9_within at h
  refine wg_iload_n X 0 dX9_within_0 rfl rfl ?_
  refine wg_iload_n X 1 dX9_within_1 rfl rfl ?_
  refine wg_icmp_ge X 9 dX9_within_2 (by decide) (fun c1 => ?_) (fun c1 => ?_)
  · have h := if_t c1 h
    refine wg_iload_n X 0 dX9_within_9 rfl rfl ?_
    refine wg_iload_n X 2 dX9_within_10 rfl rfl ?_
    refine wg_icmp_le X 18 dX9_within_11 (by decide) (fun c2 => ?_) (fun c2 => ?_)
    · have h := if_t c2 h
      refine wg_iload_n X 0 dX9_within_18 rfl rfl ?_
      exact wg_iret X ⟨(sm_inj h), rfl, rfl⟩ hr dX9_within_19
    · have h := if_f c2 h
      refine wg_iload_n X 2 dX9_within_14 rfl rfl ?_
      refine wg_goto X 19 dX9_within_15 (by decide) ?_
      exact wg_iret X ⟨(sm_inj h), rfl, rfl⟩ hr dX9_within_19
  · have h := if_f c1 h
    refine wg_iload_n X 1 dX9_within_5 rfl rfl ?_
    refine wg_goto X 19 dX9_within_6 (by decide) ?_
    exact wg_iret X ⟨(sm_inj h), rfl, rfl⟩ hr dX9_within_19
-- WindowsGiveModel.bitsOf(I)I ('i',)
def f_X9_bitsOf_l4 (N : Nat)   (x1 : Int32) (x2 : Int32) : Option ((Int32 × Int32) ⊕ (Int32 × Int32)) :=
  if x2 = 0 then (
    some (.inr (x1, x2)))
  else (
    lt_ (x1 + (1 : Int32)) fun v2 =>
    lt_ (x2 &&& (x2 - (1 : Int32))) fun v4 =>
    some (.inl (v2, v4)))
def f_X9_bitsOf (N : Nat) (p0 : Int32) : Option Int32 :=
  bd2 (lp (fun o => f_X9_bitsOf_l4 N   o.1 o.2) N ((0 : Int32), p0)) fun v6 v7 =>
  some v6
abbrev G_X9_bitsOf (p : Program) (l : Launch) (e : Env) (s : State) (m : MethodId) (args : Array Value) (below : List Frame) (meth : Method) (c : Code) (E : wg_Ev) (ad : Nat → Nat) (S : wg_Sh) (r0 : Int32) (C0 : wg_C) (M0 : wg_M) (pc : Nat) (C : wg_C) (M : wg_M) (lv : List (Nat × Value)) (st : List Value) : Prop := wg_G p l e (wg_Rm 0 0) s m args below meth c (MQ below (wg_Qi E ad S r0 C0 M0) args s 0 0 (wg_A E)) 3 E ad S 0 0 pc C M lv st
set_option maxHeartbeats 4000000 in
set_option maxRecDepth 100000 in
theorem L_X9_bitsOf_l4 {p : Program} {l : Launch} {e : Env} {s : State} {m : MethodId} {args : Array Value} {below : List Frame} {meth : Method} {c : Code} {E : wg_Ev} {ad : Nat → Nat} {S : wg_Sh} (X : wg_X p s m args meth c cX9_bitsOf 3 RX9 E) (hr : meth.sig.returnType = (some .int)) (r0 : Int32) (C : wg_C) (M : wg_M) (N : Nat)     : ∀ (n : Nat) (x1 : Int32) (x2 : Int32) (o : (Int32 × Int32)), lp (fun o => f_X9_bitsOf_l4 N   o.1 o.2) n (x1, x2) = some o → (∀ (y1 : Int32) (y2 : Int32), o = (y1, y2) → G_X9_bitsOf p l e s m args below meth c E ad S r0 C M 20 C M [(1, .int y1), (2, .int y2)] []) → G_X9_bitsOf p l e s m args below meth c E ad S r0 C M 4 C M [(1, .int x1), (2, .int x2)] [] := by
  intro n
  induction n with
  | zero => exact fun _ _ o h => (lp_zero h).elim
  | succ n ih =>
    intro x1 x2 o h K
    obtain ⟨o1, hb, h2⟩ := lp_some h
    replace hb : f_X9_bitsOf_l4 N   x1 x2 = some o1 := hb
    clear h
    have Kc : ∀ (y1 : Int32) (y2 : Int32), o1 = Sum.inl (y1, y2) → G_X9_bitsOf p l e s m args below meth c E ad S r0 C M 4 C M [(1, .int y1), (2, .int y2)] [] := fun y1 y2 e1 => by
      subst e1
      exact ih y1 y2 o h2 K
    have Ke : ∀ (y1 : Int32) (y2 : Int32), o1 = Sum.inr ((y1, y2)) → G_X9_bitsOf p l e s m args below meth c E ad S r0 C M 20 C M [(1, .int y1), (2, .int y2)] [] := fun y1 y2 e1 => by
      subst e1
      exact K y1 y2 (sm_inj (α := (Int32 × Int32)) h2).symm
    clear ih K h2
    unfold f_X9_bitsOf_l4 at hb
    have h := hb
    clear hb
    refine wg_iload_n X 1 dX9_bitsOf_4 rfl rfl ?_
    refine wg_if_eq X 20 dX9_bitsOf_5 (by decide) (fun c1 => ?_) (fun c1 => ?_)
    · have h := if_t c1 h
      exact Ke x1 x2 (sm_inj h).symm
    · have h := if_f c1 h
      obtain ⟨v2, e3, h⟩ := lt_some h
      refine wg_iinc (lv' := [(1, .int v2), (2, .int x2)]) X 0 dX9_bitsOf_8 rfl e3 (by decide) rfl ?_
      refine wg_iload_n X 1 dX9_bitsOf_11 rfl rfl ?_
      refine wg_iload_n X 1 dX9_bitsOf_12 rfl rfl ?_
      refine wg_iconst (v := 1) X dX9_bitsOf_13 (by decide) ?_
      refine wg_isub X dX9_bitsOf_14 ?_
      refine wg_iand X dX9_bitsOf_15 ?_
      obtain ⟨v4, e5, h⟩ := lt_some h
      refine wg_istore_n (lv' := [(2, .int v4), (1, .int v2)]) X dX9_bitsOf_16 rfl e5 (by decide) rfl ?_
      refine wg_goto X 4 dX9_bitsOf_17 (by decide) ?_
      refine wg_pick [1, 0] (lv' := [(1, .int v2), (2, .int v4)]) rfl ?_
      exact Kc v2 v4 (sm_inj h).symm
set_option maxHeartbeats 4000000 in
set_option maxRecDepth 100000 in
theorem c_X9_bitsOf (l : Launch) (E : wg_Ev) (ad : Nat → Nat) (S : wg_Sh) (N : Nat) (C : wg_C) (M : wg_M) (p0 : Int32)  {r0 : Int32} (h : f_X9_bitsOf N p0 = some r0) : wg_Ci l yX9_bitsOf cX9_bitsOf 3 (some .int) 0 0 E ad S C M [.int p0] r0 C M := by
  refine wg_start (own := RX9) (by decide +kernel) rfl (Nat.le_of_ble_eq_true rfl) ?_
  intro p e s m below meth c X hr hnm
  refine wg_lv (lv' := [(0, .int p0)]) rfl ?_
  unfold f_X9_bitsOf at h
  refine wg_iconst (v := 0) X dX9_bitsOf_0 (by decide) ?_
  refine wg_istore_n (lv' := [(1, .int (0 : Int32)), (0, .int p0)]) X dX9_bitsOf_1 rfl rfl (by decide) rfl ?_
  refine wg_iload_n X 1 dX9_bitsOf_2 rfl rfl ?_
  refine wg_istore_n (lv' := [(2, .int p0), (1, .int (0 : Int32)), (0, .int p0)]) X dX9_bitsOf_3 rfl rfl (by decide) rfl ?_
  obtain ⟨o8, h9, h⟩ := bd2_o h
  refine wg_pick [1, 0] (lv' := [(1, .int (0 : Int32)), (2, .int p0)]) rfl ?_
  refine L_X9_bitsOf_l4 X hr r0 C M N     N (0 : Int32) p0 o8 h9 (fun v6 v7 e11 => ?_)
  · subst o8
    replace h := bd2_in h
    refine wg_iload_n X 0 dX9_bitsOf_20 rfl rfl ?_
    exact wg_iret X ⟨(sm_inj h), rfl, rfl⟩ hr dX9_bitsOf_21
-- WindowsGiveModel.spell(IIIIIIIII)V (('c', 55), 'i', 'i', 'i', 'i', 'i', 'i', 'i', 'i', 'i')
def f_X9_spell (M : wg_M) (p1 : Int32) (p2 : Int32) (p3 : Int32) (p4 : Int32) (p5 : Int32) (p6 : Int32) (p7 : Int32) (p8 : Int32) (p9 : Int32) : Option wg_M :=
  ck (inb p1 960) <|
  lt_ (wg_sM M 56 p1.toNatClampNeg p2) fun M2 =>
  ck (inb (p1 + (1 : Int32)) 960) <|
  lt_ (wg_sM M2 56 (p1 + (1 : Int32)).toNatClampNeg p3) fun M5 =>
  ck (inb (p1 + (2 : Int32)) 960) <|
  lt_ (wg_sM M5 56 (p1 + (2 : Int32)).toNatClampNeg p4) fun M8 =>
  ck (inb (p1 + (3 : Int32)) 960) <|
  lt_ (wg_sM M8 56 (p1 + (3 : Int32)).toNatClampNeg p5) fun M11 =>
  ck (inb (p1 + (4 : Int32)) 960) <|
  lt_ (wg_sM M11 56 (p1 + (4 : Int32)).toNatClampNeg p6) fun M14 =>
  ck (inb (p1 + (5 : Int32)) 960) <|
  lt_ (wg_sM M14 56 (p1 + (5 : Int32)).toNatClampNeg p7) fun M17 =>
  ck (inb (p1 + (6 : Int32)) 960) <|
  lt_ (wg_sM M17 56 (p1 + (6 : Int32)).toNatClampNeg p8) fun M20 =>
  ck (inb (p1 + (7 : Int32)) 960) <|
  lt_ (wg_sM M20 56 (p1 + (7 : Int32)).toNatClampNeg p9) fun M23 =>
  some M23
set_option maxHeartbeats 4000000 in
set_option maxRecDepth 100000 in
theorem c_X9_spell (l : Launch) (E : wg_Ev) (ad : Nat → Nat) (S : wg_Sh) (hS : wg_SM S) (C : wg_C) (M : wg_M) (p1 : Int32) (p2 : Int32) (p3 : Int32) (p4 : Int32) (p5 : Int32) (p6 : Int32) (p7 : Int32) (p8 : Int32) (p9 : Int32)  {D0 : wg_M} (h : f_X9_spell M p1 p2 p3 p4 p5 p6 p7 p8 p9 = some D0) : wg_Cv l yX9_spell cX9_spell 10 none 0 0 E ad S C M [.ref (ad 55), .int p1, .int p2, .int p3, .int p4, .int p5, .int p6, .int p7, .int p8, .int p9] C D0 := by
  refine wg_start (own := RX9) (by decide +kernel) rfl (Nat.le_of_ble_eq_true rfl) ?_
  intro p e s m below meth c X hr hnm
  refine wg_lv (lv' := [(0, .ref (ad 55)), (1, .int p1), (2, .int p2), (3, .int p3), (4, .int p4), (5, .int p5), (6, .int p6), (7, .int p7), (8, .int p8), (9, .int p9)]) rfl ?_
  unfold f_X9_spell at h
  refine wg_aload_n X 0 dX9_spell_0 rfl rfl ?_
  refine wg_getR (b := 56) X cl9 (SMi hS 55 9 rfl) 1 (by decide) dX9_spell_1 k_883 rfl (SMr hS 1 56 rfl) ?_
  refine wg_iload_n X 1 dX9_spell_4 rfl rfl ?_
  refine wg_iload_n X 2 dX9_spell_5 rfl rfl ?_
  obtain ⟨z1, h⟩ := ck_some h
  obtain ⟨M2, e3, h⟩ := lt_some h
  refine wg_maste X (SMi hS 56 11 rfl) (SMl hS 56 960 rfl) z1 dX9_spell_6 e3 ?_
  refine wg_aload_n X 0 dX9_spell_7 rfl rfl ?_
  refine wg_getR (b := 56) X cl9 (SMi hS 55 9 rfl) 1 (by decide) dX9_spell_8 k_883 rfl (SMr hS 1 56 rfl) ?_
  refine wg_iload_n X 1 dX9_spell_11 rfl rfl ?_
  refine wg_iconst (v := 1) X dX9_spell_12 (by decide) ?_
  refine wg_iadd X dX9_spell_13 ?_
  refine wg_iload_n X 3 dX9_spell_14 rfl rfl ?_
  obtain ⟨z4, h⟩ := ck_some h
  obtain ⟨M5, e6, h⟩ := lt_some h
  refine wg_maste X (SMi hS 56 11 rfl) (SMl hS 56 960 rfl) z4 dX9_spell_15 e6 ?_
  refine wg_aload_n X 0 dX9_spell_16 rfl rfl ?_
  refine wg_getR (b := 56) X cl9 (SMi hS 55 9 rfl) 1 (by decide) dX9_spell_17 k_883 rfl (SMr hS 1 56 rfl) ?_
  refine wg_iload_n X 1 dX9_spell_20 rfl rfl ?_
  refine wg_iconst (v := 2) X dX9_spell_21 (by decide) ?_
  refine wg_iadd X dX9_spell_22 ?_
  refine wg_iload X 4 dX9_spell_23 rfl ?_
  obtain ⟨z7, h⟩ := ck_some h
  obtain ⟨M8, e9, h⟩ := lt_some h
  refine wg_maste X (SMi hS 56 11 rfl) (SMl hS 56 960 rfl) z7 dX9_spell_25 e9 ?_
  refine wg_aload_n X 0 dX9_spell_26 rfl rfl ?_
  refine wg_getR (b := 56) X cl9 (SMi hS 55 9 rfl) 1 (by decide) dX9_spell_27 k_883 rfl (SMr hS 1 56 rfl) ?_
  refine wg_iload_n X 1 dX9_spell_30 rfl rfl ?_
  refine wg_iconst (v := 3) X dX9_spell_31 (by decide) ?_
  refine wg_iadd X dX9_spell_32 ?_
  refine wg_iload X 5 dX9_spell_33 rfl ?_
  obtain ⟨z10, h⟩ := ck_some h
  obtain ⟨M11, e12, h⟩ := lt_some h
  refine wg_maste X (SMi hS 56 11 rfl) (SMl hS 56 960 rfl) z10 dX9_spell_35 e12 ?_
  refine wg_aload_n X 0 dX9_spell_36 rfl rfl ?_
  refine wg_getR (b := 56) X cl9 (SMi hS 55 9 rfl) 1 (by decide) dX9_spell_37 k_883 rfl (SMr hS 1 56 rfl) ?_
  refine wg_iload_n X 1 dX9_spell_40 rfl rfl ?_
  refine wg_iconst (v := 4) X dX9_spell_41 (by decide) ?_
  refine wg_iadd X dX9_spell_42 ?_
  refine wg_iload X 6 dX9_spell_43 rfl ?_
  obtain ⟨z13, h⟩ := ck_some h
  obtain ⟨M14, e15, h⟩ := lt_some h
  refine wg_maste X (SMi hS 56 11 rfl) (SMl hS 56 960 rfl) z13 dX9_spell_45 e15 ?_
  refine wg_aload_n X 0 dX9_spell_46 rfl rfl ?_
  refine wg_getR (b := 56) X cl9 (SMi hS 55 9 rfl) 1 (by decide) dX9_spell_47 k_883 rfl (SMr hS 1 56 rfl) ?_
  refine wg_iload_n X 1 dX9_spell_50 rfl rfl ?_
  refine wg_iconst (v := 5) X dX9_spell_51 (by decide) ?_
  refine wg_iadd X dX9_spell_52 ?_
  refine wg_iload X 7 dX9_spell_53 rfl ?_
  obtain ⟨z16, h⟩ := ck_some h
  obtain ⟨M17, e18, h⟩ := lt_some h
  refine wg_maste X (SMi hS 56 11 rfl) (SMl hS 56 960 rfl) z16 dX9_spell_55 e18 ?_
  refine wg_aload_n X 0 dX9_spell_56 rfl rfl ?_
  refine wg_getR (b := 56) X cl9 (SMi hS 55 9 rfl) 1 (by decide) dX9_spell_57 k_883 rfl (SMr hS 1 56 rfl) ?_
  refine wg_iload_n X 1 dX9_spell_60 rfl rfl ?_
  refine wg_bipush (v := 6) X dX9_spell_61 (by decide) ?_
  refine wg_iadd X dX9_spell_63 ?_
  refine wg_iload X 8 dX9_spell_64 rfl ?_
  obtain ⟨z19, h⟩ := ck_some h
  obtain ⟨M20, e21, h⟩ := lt_some h
  refine wg_maste X (SMi hS 56 11 rfl) (SMl hS 56 960 rfl) z19 dX9_spell_66 e21 ?_
  refine wg_aload_n X 0 dX9_spell_67 rfl rfl ?_
  refine wg_getR (b := 56) X cl9 (SMi hS 55 9 rfl) 1 (by decide) dX9_spell_68 k_883 rfl (SMr hS 1 56 rfl) ?_
  refine wg_iload_n X 1 dX9_spell_71 rfl rfl ?_
  refine wg_bipush (v := 7) X dX9_spell_72 (by decide) ?_
  refine wg_iadd X dX9_spell_74 ?_
  refine wg_iload X 9 dX9_spell_75 rfl ?_
  obtain ⟨z22, h⟩ := ck_some h
  obtain ⟨M23, e24, h⟩ := lt_some h
  refine wg_maste X (SMi hS 56 11 rfl) (SMl hS 56 960 rfl) z22 dX9_spell_77 e24 ?_
  exact wg_vret X ⟨rfl, (sm_inj h)⟩ hr dX9_spell_78
-- WindowsGiveModel.isPane(I)Z (('c', 55), 'i')
def f_X9_isPane (M : wg_M) (p1 : Int32) : Option Int32 :=
  bd (f_X9_in p1.toInt64 (0 : Int64) (((M.1 55 13) - (1 : Int32)).toInt64)) fun r2 =>
  ck (r2 = 0 ∨ r2 = 1) <|
  some r2
set_option maxHeartbeats 4000000 in
set_option maxRecDepth 100000 in
theorem c_X9_isPane (l : Launch) (E : wg_Ev) (ad : Nat → Nat) (S : wg_Sh) (hS : wg_SM S) (C : wg_C) (M : wg_M) (p1 : Int32)  {r0 : Int32} (h : f_X9_isPane M p1 = some r0) : wg_Ci l yX9_isPane cX9_isPane 2 (some .boolean) 1 25 E ad S C M [.ref (ad 55), .int p1] r0 C M := by
  refine wg_start (own := RX9) (by decide +kernel) rfl (Nat.le_of_ble_eq_true rfl) ?_
  intro p e s m below meth c X hr hnm
  refine wg_lv (lv' := [(0, .ref (ad 55)), (1, .int p1)]) rfl ?_
  unfold f_X9_isPane at h
  refine wg_iload_n X 1 dX9_isPane_0 rfl rfl ?_
  refine wg_i2l X dX9_isPane_1 ?_
  refine wg_lconst (v := 0) X dX9_isPane_2 (by decide) ?_
  refine wg_aload_n X 0 dX9_isPane_3 rfl rfl ?_
  refine wg_getM X cl9 (SMi hS 55 9 rfl) 13 (by decide) dX9_isPane_4 k_895 rfl ?_
  refine wg_iconst (v := 1) X dX9_isPane_7 (by decide) ?_
  refine wg_isub X dX9_isPane_8 ?_
  refine wg_i2l X dX9_isPane_9 ?_
  obtain ⟨r2, h1, h⟩ := bd_some h
  refine wg_callSi (As := [.long (p1.toInt64), .long (0 : Int64), .long (((M.1 55 13) - (1 : Int32)).toInt64)]) (rest := []) X (c_X9_in l E ad S C M p1.toInt64 (0 : Int64) (((M.1 55 13) - (1 : Int32)).toInt64)  h1) T_yX9_in k_1021 dX9_isPane_10 rfl rfl (Nat.le_of_ble_eq_true rfl) ⟨Nat.le_of_ble_eq_true rfl, Nat.le_of_ble_eq_true rfl⟩ ⟨Nat.zero_le _, Nat.zero_le _⟩ ?_
  obtain ⟨z3, h⟩ := ck_some h
  exact wg_zret X ⟨(sm_inj h), rfl, rfl⟩ hr z3 dX9_isPane_13
-- WindowsGiveModel.isDay(I)Z ('i',)
def f_X9_isDay (p0 : Int32) : Option Int32 :=
  bd (f_X9_in p0.toInt64 (0 : Int64) (31 : Int64)) fun r2 =>
  ck (r2 = 0 ∨ r2 = 1) <|
  some r2
set_option maxHeartbeats 4000000 in
set_option maxRecDepth 100000 in
theorem c_X9_isDay (l : Launch) (E : wg_Ev) (ad : Nat → Nat) (S : wg_Sh) (C : wg_C) (M : wg_M) (p0 : Int32)  {r0 : Int32} (h : f_X9_isDay p0 = some r0) : wg_Ci l yX9_isDay cX9_isDay 1 (some .boolean) 1 25 E ad S C M [.int p0] r0 C M := by
  refine wg_start (own := RX9) (by decide +kernel) rfl (Nat.le_of_ble_eq_true rfl) ?_
  intro p e s m below meth c X hr hnm
  refine wg_lv (lv' := [(0, .int p0)]) rfl ?_
  unfold f_X9_isDay at h
  refine wg_iload_n X 0 dX9_isDay_0 rfl rfl ?_
  refine wg_i2l X dX9_isDay_1 ?_
  refine wg_lconst (v := 0) X dX9_isDay_2 (by decide) ?_
  refine wg_ldc2 (v := 31) X dX9_isDay_3 k_1027 ?_
  obtain ⟨r2, h1, h⟩ := bd_some h
  refine wg_callSi (As := [.long (p0.toInt64), .long (0 : Int64), .long (31 : Int64)]) (rest := []) X (c_X9_in l E ad S C M p0.toInt64 (0 : Int64) (31 : Int64)  h1) T_yX9_in k_1021 dX9_isDay_6 rfl rfl (Nat.le_of_ble_eq_true rfl) ⟨Nat.le_of_ble_eq_true rfl, Nat.le_of_ble_eq_true rfl⟩ ⟨Nat.zero_le _, Nat.zero_le _⟩ ?_
  obtain ⟨z3, h⟩ := ck_some h
  exact wg_zret X ⟨(sm_inj h), rfl, rfl⟩ hr z3 dX9_isDay_9
-- WindowsGiveModel.isRoom(I)Z ('i',)
def f_X9_isRoom (p0 : Int32) : Option Int32 :=
  bd (f_X9_in p0.toInt64 (0 : Int64) (5 : Int64)) fun r2 =>
  ck (r2 = 0 ∨ r2 = 1) <|
  some r2
set_option maxHeartbeats 4000000 in
set_option maxRecDepth 100000 in
theorem c_X9_isRoom (l : Launch) (E : wg_Ev) (ad : Nat → Nat) (S : wg_Sh) (C : wg_C) (M : wg_M) (p0 : Int32)  {r0 : Int32} (h : f_X9_isRoom p0 = some r0) : wg_Ci l yX9_isRoom cX9_isRoom 1 (some .boolean) 1 25 E ad S C M [.int p0] r0 C M := by
  refine wg_start (own := RX9) (by decide +kernel) rfl (Nat.le_of_ble_eq_true rfl) ?_
  intro p e s m below meth c X hr hnm
  refine wg_lv (lv' := [(0, .int p0)]) rfl ?_
  unfold f_X9_isRoom at h
  refine wg_iload_n X 0 dX9_isRoom_0 rfl rfl ?_
  refine wg_i2l X dX9_isRoom_1 ?_
  refine wg_lconst (v := 0) X dX9_isRoom_2 (by decide) ?_
  refine wg_ldc2 (v := 5) X dX9_isRoom_3 k_1033 ?_
  obtain ⟨r2, h1, h⟩ := bd_some h
  refine wg_callSi (As := [.long (p0.toInt64), .long (0 : Int64), .long (5 : Int64)]) (rest := []) X (c_X9_in l E ad S C M p0.toInt64 (0 : Int64) (5 : Int64)  h1) T_yX9_in k_1021 dX9_isRoom_6 rfl rfl (Nat.le_of_ble_eq_true rfl) ⟨Nat.le_of_ble_eq_true rfl, Nat.le_of_ble_eq_true rfl⟩ ⟨Nat.zero_le _, Nat.zero_le _⟩ ?_
  obtain ⟨z3, h⟩ := ck_some h
  exact wg_zret X ⟨(sm_inj h), rfl, rfl⟩ hr z3 dX9_isRoom_9
-- WindowsGiveModel.isSpot(I)Z ('i',)
def f_X9_isSpot (p0 : Int32) : Option Int32 :=
  bd (f_X9_in p0.toInt64 (0 : Int64) (191 : Int64)) fun r2 =>
  ck (r2 = 0 ∨ r2 = 1) <|
  some r2
set_option maxHeartbeats 4000000 in
set_option maxRecDepth 100000 in
theorem c_X9_isSpot (l : Launch) (E : wg_Ev) (ad : Nat → Nat) (S : wg_Sh) (C : wg_C) (M : wg_M) (p0 : Int32)  {r0 : Int32} (h : f_X9_isSpot p0 = some r0) : wg_Ci l yX9_isSpot cX9_isSpot 1 (some .boolean) 1 25 E ad S C M [.int p0] r0 C M := by
  refine wg_start (own := RX9) (by decide +kernel) rfl (Nat.le_of_ble_eq_true rfl) ?_
  intro p e s m below meth c X hr hnm
  refine wg_lv (lv' := [(0, .int p0)]) rfl ?_
  unfold f_X9_isSpot at h
  refine wg_iload_n X 0 dX9_isSpot_0 rfl rfl ?_
  refine wg_i2l X dX9_isSpot_1 ?_
  refine wg_lconst (v := 0) X dX9_isSpot_2 (by decide) ?_
  refine wg_ldc2 (v := 191) X dX9_isSpot_3 k_1161 ?_
  obtain ⟨r2, h1, h⟩ := bd_some h
  refine wg_callSi (As := [.long (p0.toInt64), .long (0 : Int64), .long (191 : Int64)]) (rest := []) X (c_X9_in l E ad S C M p0.toInt64 (0 : Int64) (191 : Int64)  h1) T_yX9_in k_1021 dX9_isSpot_6 rfl rfl (Nat.le_of_ble_eq_true rfl) ⟨Nat.le_of_ble_eq_true rfl, Nat.le_of_ble_eq_true rfl⟩ ⟨Nat.zero_le _, Nat.zero_le _⟩ ?_
  obtain ⟨z3, h⟩ := ck_some h
  exact wg_zret X ⟨(sm_inj h), rfl, rfl⟩ hr z3 dX9_isSpot_9
-- WindowsGiveModel.isSort(I)Z ('i',)
def f_X9_isSort (p0 : Int32) : Option Int32 :=
  bd (f_X9_in p0.toInt64 (0 : Int64) (2 : Int64)) fun r2 =>
  ck (r2 = 0 ∨ r2 = 1) <|
  some r2
set_option maxHeartbeats 4000000 in
set_option maxRecDepth 100000 in
theorem c_X9_isSort (l : Launch) (E : wg_Ev) (ad : Nat → Nat) (S : wg_Sh) (C : wg_C) (M : wg_M) (p0 : Int32)  {r0 : Int32} (h : f_X9_isSort p0 = some r0) : wg_Ci l yX9_isSort cX9_isSort 1 (some .boolean) 1 25 E ad S C M [.int p0] r0 C M := by
  refine wg_start (own := RX9) (by decide +kernel) rfl (Nat.le_of_ble_eq_true rfl) ?_
  intro p e s m below meth c X hr hnm
  refine wg_lv (lv' := [(0, .int p0)]) rfl ?_
  unfold f_X9_isSort at h
  refine wg_iload_n X 0 dX9_isSort_0 rfl rfl ?_
  refine wg_i2l X dX9_isSort_1 ?_
  refine wg_lconst (v := 0) X dX9_isSort_2 (by decide) ?_
  refine wg_ldc2 (v := 2) X dX9_isSort_3 k_1061 ?_
  obtain ⟨r2, h1, h⟩ := bd_some h
  refine wg_callSi (As := [.long (p0.toInt64), .long (0 : Int64), .long (2 : Int64)]) (rest := []) X (c_X9_in l E ad S C M p0.toInt64 (0 : Int64) (2 : Int64)  h1) T_yX9_in k_1021 dX9_isSort_6 rfl rfl (Nat.le_of_ble_eq_true rfl) ⟨Nat.le_of_ble_eq_true rfl, Nat.le_of_ble_eq_true rfl⟩ ⟨Nat.zero_le _, Nat.zero_le _⟩ ?_
  obtain ⟨z3, h⟩ := ck_some h
  exact wg_zret X ⟨(sm_inj h), rfl, rfl⟩ hr z3 dX9_isSort_9
-- WindowsGiveModel.leads(I)I (('c', 55), 'i')
def f_X9_leads (M : wg_M) (p1 : Int32) : Option Int32 :=
  ck (inb p1 8) <|
  if (M.1 60 p1.toNatClampNeg) = (4 : Int32) then (
    ck (inb p1 8) <|
    some (M.1 63 p1.toNatClampNeg))
  else (
    ck (inb p1 8) <|
    some (M.1 64 p1.toNatClampNeg))
set_option maxHeartbeats 4000000 in
set_option maxRecDepth 100000 in
theorem c_X9_leads (l : Launch) (E : wg_Ev) (ad : Nat → Nat) (S : wg_Sh) (hS : wg_SM S) (C : wg_C) (M : wg_M) (p1 : Int32)  {r0 : Int32} (h : f_X9_leads M p1 = some r0) : wg_Ci l yX9_leads cX9_leads 2 (some .int) 0 0 E ad S C M [.ref (ad 55), .int p1] r0 C M := by
  refine wg_start (own := RX9) (by decide +kernel) rfl (Nat.le_of_ble_eq_true rfl) ?_
  intro p e s m below meth c X hr hnm
  refine wg_lv (lv' := [(0, .ref (ad 55)), (1, .int p1)]) rfl ?_
  unfold f_X9_leads at h
  refine wg_aload_n X 0 dX9_leads_0 rfl rfl ?_
  refine wg_getR (b := 60) X cl9 (SMi hS 55 9 rfl) 8 (by decide) dX9_leads_1 k_890 rfl (SMr hS 8 60 rfl) ?_
  refine wg_iload_n X 1 dX9_leads_4 rfl rfl ?_
  obtain ⟨z1, h⟩ := ck_some h
  refine wg_mald X (SMi hS 60 11 rfl) (SMl hS 60 8 rfl) z1 dX9_leads_5 ?_
  refine wg_iconst (v := 4) X dX9_leads_6 (by decide) ?_
  refine wg_icmp_ne X 19 dX9_leads_7 (by decide) (fun c2 => ?_) (fun c2 => ?_)
  · have h := if_f c2 h
    refine wg_aload_n X 0 dX9_leads_19 rfl rfl ?_
    refine wg_getR (b := 64) X cl9 (SMi hS 55 9 rfl) 12 (by decide) dX9_leads_20 k_894 rfl (SMr hS 12 64 rfl) ?_
    refine wg_iload_n X 1 dX9_leads_23 rfl rfl ?_
    obtain ⟨z3, h⟩ := ck_some h
    refine wg_mald X (SMi hS 64 11 rfl) (SMl hS 64 8 rfl) z3 dX9_leads_24 ?_
    exact wg_iret X ⟨(sm_inj h), rfl, rfl⟩ hr dX9_leads_25
  · have h := if_t c2 h
    refine wg_aload_n X 0 dX9_leads_10 rfl rfl ?_
    refine wg_getR (b := 63) X cl9 (SMi hS 55 9 rfl) 11 (by decide) dX9_leads_11 k_893 rfl (SMr hS 11 63 rfl) ?_
    refine wg_iload_n X 1 dX9_leads_14 rfl rfl ?_
    obtain ⟨z4, h⟩ := ck_some h
    refine wg_mald X (SMi hS 63 11 rfl) (SMl hS 63 8 rfl) z4 dX9_leads_15 ?_
    refine wg_goto X 25 dX9_leads_16 (by decide) ?_
    exact wg_iret X ⟨(sm_inj h), rfl, rfl⟩ hr dX9_leads_25
-- WindowsGiveModel.told(II)I (('c', 55), 'i', 'i')
def f_X9_told_j37 (M : wg_M)  (x1 : Int32) (x2 : Int32) : Option Int32 :=
  if (3 : Int32) ≤ x2 then (
    if x2 = (3 : Int32) then (
      ck (inb x1 8) <|
      some (M.1 63 x1.toNatClampNeg))
    else (
      if x2 = (4 : Int32) then (
        ck (inb x1 8) <|
        some (M.1 64 x1.toNatClampNeg))
      else (
        if x2 = (5 : Int32) then (
          ck (inb x1 8) <|
          some (M.1 60 x1.toNatClampNeg))
        else (
          bd (f_X9_leads M x1) fun r13 =>
          some r13))))
  else (
    if x2 = 0 then (
      ck (inb x1 32) <|
      some (M.1 59 x1.toNatClampNeg))
    else (
      if x2 = (1 : Int32) then (
        ck (inb x1 8) <|
        some (M.1 61 x1.toNatClampNeg))
      else (
        ck (inb x1 8) <|
        some (M.1 62 x1.toNatClampNeg))))
def f_X9_told (M : wg_M) (p1 : Int32) (p2 : Int32) : Option Int32 :=
  bd (f_X9_in p2.toInt64 (0 : Int64) (6 : Int64)) fun r2 =>
  if r2 = 0 then (
    some (-100 : Int32))
  else (
    if p2 = 0 then (
      bd (f_X9_isDay p1) fun r23 =>
      if r23 = 0 then (
        some (-100 : Int32))
      else (
        f_X9_told_j37 M  p1 p2))
    else (
      bd (f_X9_isPane M p1) fun r6 =>
      if r6 = 0 then (
        some (-100 : Int32))
      else (
        f_X9_told_j37 M  p1 p2)))
abbrev G_X9_told (p : Program) (l : Launch) (e : Env) (s : State) (m : MethodId) (args : Array Value) (below : List Frame) (meth : Method) (c : Code) (E : wg_Ev) (ad : Nat → Nat) (S : wg_Sh) (r0 : Int32) (C0 : wg_C) (M0 : wg_M) (pc : Nat) (C : wg_C) (M : wg_M) (lv : List (Nat × Value)) (st : List Value) : Prop := wg_G p l e (wg_Rm 2 46) s m args below meth c (MQ below (wg_Qi E ad S r0 C0 M0) args s 0 0 (wg_A E)) 3 E ad S 0 0 pc C M lv st
set_option maxHeartbeats 4000000 in
set_option maxRecDepth 100000 in
theorem J_X9_told_j37 {p : Program} {l : Launch} {e : Env} {s : State} {m : MethodId} {args : Array Value} {below : List Frame} {meth : Method} {c : Code} {E : wg_Ev} {ad : Nat → Nat} {S : wg_Sh} (X : wg_X p s m args meth c cX9_told 3 RX9 E) (hr : meth.sig.returnType = (some .int)) (hS : wg_SM S) (r0 : Int32) (C : wg_C)  (M : wg_M)  (x1 : Int32) (x2 : Int32)   (h : f_X9_told_j37 M  x1 x2 = some r0) : G_X9_told p l e s m args below meth c E ad S r0 C M 37 C M [(0, .ref (ad 55)), (1, .int x1), (2, .int x2)] [] := by
  unfold f_X9_told_j37 at h
  refine wg_iload_n X 2 dX9_told_37 rfl rfl ?_
  refine wg_iconst (v := 3) X dX9_told_38 (by decide) ?_
  refine wg_icmp_ge X 76 dX9_told_39 (by decide) (fun c8 => ?_) (fun c8 => ?_)
  · have h := if_t c8 h
    refine wg_iload_n X 2 dX9_told_76 rfl rfl ?_
    refine wg_iconst (v := 3) X dX9_told_77 (by decide) ?_
    refine wg_icmp_ne X 90 dX9_told_78 (by decide) (fun c9 => ?_) (fun c9 => ?_)
    · have h := if_f c9 h
      refine wg_iload_n X 2 dX9_told_90 rfl rfl ?_
      refine wg_iconst (v := 4) X dX9_told_91 (by decide) ?_
      refine wg_icmp_ne X 104 dX9_told_92 (by decide) (fun c10 => ?_) (fun c10 => ?_)
      · have h := if_f c10 h
        refine wg_iload_n X 2 dX9_told_104 rfl rfl ?_
        refine wg_iconst (v := 5) X dX9_told_105 (by decide) ?_
        refine wg_icmp_ne X 118 dX9_told_106 (by decide) (fun c11 => ?_) (fun c11 => ?_)
        · have h := if_f c11 h
          refine wg_aload_n X 0 dX9_told_118 rfl rfl ?_
          refine wg_iload_n X 1 dX9_told_119 rfl rfl ?_
          obtain ⟨r13, h12, h⟩ := bd_some h
          refine wg_callVi (As := [.int x1]) (rest := []) X (c_X9_leads l E ad S hS C M x1  h12) T_yX9_leads k_1040 cl9 (SMi hS 55 9 rfl) dX9_told_120 rfl rfl (Nat.le_of_ble_eq_true rfl) ⟨Nat.le_of_ble_eq_true rfl, Nat.le_of_ble_eq_true rfl⟩ ⟨Nat.zero_le _, Nat.zero_le _⟩ ?_
          exact wg_iret X ⟨(sm_inj h), rfl, rfl⟩ hr dX9_told_123
        · have h := if_t c11 h
          refine wg_aload_n X 0 dX9_told_109 rfl rfl ?_
          refine wg_getR (b := 60) X cl9 (SMi hS 55 9 rfl) 8 (by decide) dX9_told_110 k_890 rfl (SMr hS 8 60 rfl) ?_
          refine wg_iload_n X 1 dX9_told_113 rfl rfl ?_
          obtain ⟨z14, h⟩ := ck_some h
          refine wg_mald X (SMi hS 60 11 rfl) (SMl hS 60 8 rfl) z14 dX9_told_114 ?_
          refine wg_goto X 123 dX9_told_115 (by decide) ?_
          exact wg_iret X ⟨(sm_inj h), rfl, rfl⟩ hr dX9_told_123
      · have h := if_t c10 h
        refine wg_aload_n X 0 dX9_told_95 rfl rfl ?_
        refine wg_getR (b := 64) X cl9 (SMi hS 55 9 rfl) 12 (by decide) dX9_told_96 k_894 rfl (SMr hS 12 64 rfl) ?_
        refine wg_iload_n X 1 dX9_told_99 rfl rfl ?_
        obtain ⟨z15, h⟩ := ck_some h
        refine wg_mald X (SMi hS 64 11 rfl) (SMl hS 64 8 rfl) z15 dX9_told_100 ?_
        refine wg_goto X 123 dX9_told_101 (by decide) ?_
        exact wg_iret X ⟨(sm_inj h), rfl, rfl⟩ hr dX9_told_123
    · have h := if_t c9 h
      refine wg_aload_n X 0 dX9_told_81 rfl rfl ?_
      refine wg_getR (b := 63) X cl9 (SMi hS 55 9 rfl) 11 (by decide) dX9_told_82 k_893 rfl (SMr hS 11 63 rfl) ?_
      refine wg_iload_n X 1 dX9_told_85 rfl rfl ?_
      obtain ⟨z16, h⟩ := ck_some h
      refine wg_mald X (SMi hS 63 11 rfl) (SMl hS 63 8 rfl) z16 dX9_told_86 ?_
      refine wg_goto X 123 dX9_told_87 (by decide) ?_
      exact wg_iret X ⟨(sm_inj h), rfl, rfl⟩ hr dX9_told_123
  · have h := if_f c8 h
    refine wg_iload_n X 2 dX9_told_42 rfl rfl ?_
    refine wg_if_ne X 55 dX9_told_43 (by decide) (fun c17 => ?_) (fun c17 => ?_)
    · have h := if_f c17 h
      refine wg_iload_n X 2 dX9_told_55 rfl rfl ?_
      refine wg_iconst (v := 1) X dX9_told_56 (by decide) ?_
      refine wg_icmp_ne X 69 dX9_told_57 (by decide) (fun c18 => ?_) (fun c18 => ?_)
      · have h := if_f c18 h
        refine wg_aload_n X 0 dX9_told_69 rfl rfl ?_
        refine wg_getR (b := 62) X cl9 (SMi hS 55 9 rfl) 10 (by decide) dX9_told_70 k_892 rfl (SMr hS 10 62 rfl) ?_
        refine wg_iload_n X 1 dX9_told_73 rfl rfl ?_
        obtain ⟨z19, h⟩ := ck_some h
        refine wg_mald X (SMi hS 62 11 rfl) (SMl hS 62 8 rfl) z19 dX9_told_74 ?_
        exact wg_iret X ⟨(sm_inj h), rfl, rfl⟩ hr dX9_told_75
      · have h := if_t c18 h
        refine wg_aload_n X 0 dX9_told_60 rfl rfl ?_
        refine wg_getR (b := 61) X cl9 (SMi hS 55 9 rfl) 9 (by decide) dX9_told_61 k_891 rfl (SMr hS 9 61 rfl) ?_
        refine wg_iload_n X 1 dX9_told_64 rfl rfl ?_
        obtain ⟨z20, h⟩ := ck_some h
        refine wg_mald X (SMi hS 61 11 rfl) (SMl hS 61 8 rfl) z20 dX9_told_65 ?_
        refine wg_goto X 75 dX9_told_66 (by decide) ?_
        exact wg_iret X ⟨(sm_inj h), rfl, rfl⟩ hr dX9_told_75
    · have h := if_t c17 h
      refine wg_aload_n X 0 dX9_told_46 rfl rfl ?_
      refine wg_getR (b := 59) X cl9 (SMi hS 55 9 rfl) 7 (by decide) dX9_told_47 k_889 rfl (SMr hS 7 59 rfl) ?_
      refine wg_iload_n X 1 dX9_told_50 rfl rfl ?_
      obtain ⟨z21, h⟩ := ck_some h
      refine wg_mald X (SMi hS 59 11 rfl) (SMl hS 59 32 rfl) z21 dX9_told_51 ?_
      refine wg_goto X 75 dX9_told_52 (by decide) ?_
      exact wg_iret X ⟨(sm_inj h), rfl, rfl⟩ hr dX9_told_75
set_option maxHeartbeats 4000000 in
set_option maxRecDepth 100000 in
theorem c_X9_told (l : Launch) (E : wg_Ev) (ad : Nat → Nat) (S : wg_Sh) (hS : wg_SM S) (C : wg_C) (M : wg_M) (p1 : Int32) (p2 : Int32)  {r0 : Int32} (h : f_X9_told M p1 p2 = some r0) : wg_Ci l yX9_told cX9_told 3 (some .int) 2 46 E ad S C M [.ref (ad 55), .int p1, .int p2] r0 C M := by
  refine wg_start (own := RX9) (by decide +kernel) rfl (Nat.le_of_ble_eq_true rfl) ?_
  intro p e s m below meth c X hr hnm
  refine wg_lv (lv' := [(0, .ref (ad 55)), (1, .int p1), (2, .int p2)]) rfl ?_
  unfold f_X9_told at h
  refine wg_iload_n X 2 dX9_told_0 rfl rfl ?_
  refine wg_i2l X dX9_told_1 ?_
  refine wg_lconst (v := 0) X dX9_told_2 (by decide) ?_
  refine wg_ldc2 (v := 6) X dX9_told_3 k_1039 ?_
  obtain ⟨r2, h1, h⟩ := bd_some h
  refine wg_callSi (As := [.long (p2.toInt64), .long (0 : Int64), .long (6 : Int64)]) (rest := []) X (c_X9_in l E ad S C M p2.toInt64 (0 : Int64) (6 : Int64)  h1) T_yX9_in k_1021 dX9_told_6 rfl rfl (Nat.le_of_ble_eq_true rfl) ⟨Nat.le_of_ble_eq_true rfl, Nat.le_of_ble_eq_true rfl⟩ ⟨Nat.zero_le _, Nat.zero_le _⟩ ?_
  refine wg_if_eq X 34 dX9_told_9 (by decide) (fun c3 => ?_) (fun c3 => ?_)
  · have h := if_t c3 h
    refine wg_bipush (v := -100) X dX9_told_34 (by decide) ?_
    exact wg_iret X ⟨(sm_inj h), rfl, rfl⟩ hr dX9_told_36
  · have h := if_f c3 h
    refine wg_iload_n X 2 dX9_told_12 rfl rfl ?_
    refine wg_if_ne X 26 dX9_told_13 (by decide) (fun c4 => ?_) (fun c4 => ?_)
    · have h := if_f c4 h
      refine wg_aload_n X 0 dX9_told_26 rfl rfl ?_
      refine wg_iload_n X 1 dX9_told_27 rfl rfl ?_
      obtain ⟨r6, h5, h⟩ := bd_some h
      refine wg_callVi (As := [.int p1]) (rest := []) X (c_X9_isPane l E ad S hS C M p1  h5) T_yX9_isPane k_1028 cl9 (SMi hS 55 9 rfl) dX9_told_28 rfl rfl (Nat.le_of_ble_eq_true rfl) ⟨Nat.le_of_ble_eq_true rfl, Nat.le_of_ble_eq_true rfl⟩ ⟨Nat.zero_le _, Nat.zero_le _⟩ ?_
      refine wg_if_ne X 37 dX9_told_31 (by decide) (fun c7 => ?_) (fun c7 => ?_)
      · have h := if_f c7 h
        exact J_X9_told_j37 X hr hS r0 C  M  p1 p2   h
      · have h := if_t c7 h
        refine wg_bipush (v := -100) X dX9_told_34 (by decide) ?_
        exact wg_iret X ⟨(sm_inj h), rfl, rfl⟩ hr dX9_told_36
    · have h := if_t c4 h
      refine wg_iload_n X 1 dX9_told_16 rfl rfl ?_
      obtain ⟨r23, h22, h⟩ := bd_some h
      refine wg_callSi (As := [.int p1]) (rest := []) X (c_X9_isDay l E ad S C M p1  h22) T_yX9_isDay k_1024 dX9_told_17 rfl rfl (Nat.le_of_ble_eq_true rfl) ⟨Nat.le_of_ble_eq_true rfl, Nat.le_of_ble_eq_true rfl⟩ ⟨Nat.zero_le _, Nat.zero_le _⟩ ?_
      refine wg_if_eq X 34 dX9_told_20 (by decide) (fun c24 => ?_) (fun c24 => ?_)
      · have h := if_t c24 h
        refine wg_bipush (v := -100) X dX9_told_34 (by decide) ?_
        exact wg_iret X ⟨(sm_inj h), rfl, rfl⟩ hr dX9_told_36
      · have h := if_f c24 h
        refine wg_goto X 37 dX9_told_23 (by decide) ?_
        exact J_X9_told_j37 X hr hS r0 C  M  p1 p2   h
-- WindowsGiveModel.set(III)I (('c', 55), 'i', 'i', 'i')
def f_X9_set_j65 (M : wg_M)  (x1 : Int32) (x2 : Int32) (x3 : Int32) (s0 : Int64) (s1 : Int64) (s2 : Int64) : Option (Int32 × wg_M) :=
  bd (f_X9_in s2 s1 s0) fun r11 =>
  if r11 = 0 then (
    some ((-100 : Int32), M))
  else (
    bd (f_X9_told M x2 x1) fun r14 =>
    if x1 = 0 then (
      ck (inb x2 32) <|
      lt_ (wg_sM M 59 x2.toNatClampNeg x3) fun M32 =>
      some (r14, M32))
    else (
      if x1 = (1 : Int32) then (
        ck (inb x2 8) <|
        lt_ (wg_sM M 61 x2.toNatClampNeg x3) fun M29 =>
        some (r14, M29))
      else (
        if x1 = (2 : Int32) then (
          ck (inb x2 8) <|
          lt_ (wg_sM M 62 x2.toNatClampNeg x3) fun M26 =>
          some (r14, M26))
        else (
          if x1 = (3 : Int32) then (
            ck (inb x2 8) <|
            lt_ (wg_sM M 63 x2.toNatClampNeg x3) fun M23 =>
            some (r14, M23))
          else (
            ck (inb x2 8) <|
            lt_ (wg_sM M 64 x2.toNatClampNeg x3) fun M20 =>
            some (r14, M20))))))
def f_X9_set_j51 (M : wg_M)  (x1 : Int32) (x2 : Int32) (x3 : Int32) (s0 : Int64) (s1 : Int64) : Option (Int32 × wg_M) :=
  if x1 ≤ (2 : Int32) then (
    f_X9_set_j65 M  x1 x2 x3 (9 : Int64) s0 s1)
  else (
    f_X9_set_j65 M  x1 x2 x3 (5 : Int64) s0 s1)
def f_X9_set_j37 (M : wg_M)  (x1 : Int32) (x2 : Int32) (x3 : Int32) : Option (Int32 × wg_M) :=
  if x1 = (2 : Int32) then (
    f_X9_set_j51 M  x1 x2 x3 (-9 : Int64) x3.toInt64)
  else (
    f_X9_set_j51 M  x1 x2 x3 (0 : Int64) x3.toInt64)
def f_X9_set (M : wg_M) (p1 : Int32) (p2 : Int32) (p3 : Int32) : Option (Int32 × wg_M) :=
  bd (f_X9_in p1.toInt64 (0 : Int64) (4 : Int64)) fun r2 =>
  if r2 = 0 then (
    some ((-100 : Int32), M))
  else (
    if p1 = 0 then (
      bd (f_X9_isDay p2) fun r35 =>
      if r35 = 0 then (
        some ((-100 : Int32), M))
      else (
        f_X9_set_j37 M  p1 p2 p3))
    else (
      bd (f_X9_isPane M p2) fun r6 =>
      if r6 = 0 then (
        some ((-100 : Int32), M))
      else (
        f_X9_set_j37 M  p1 p2 p3)))
abbrev G_X9_set (p : Program) (l : Launch) (e : Env) (s : State) (m : MethodId) (args : Array Value) (below : List Frame) (meth : Method) (c : Code) (E : wg_Ev) (ad : Nat → Nat) (S : wg_Sh) (r0 : Int32) (C0 : wg_C) (M0 : wg_M) (pc : Nat) (C : wg_C) (M : wg_M) (lv : List (Nat × Value)) (st : List Value) : Prop := wg_G p l e (wg_Rm 3 68) s m args below meth c (MQ below (wg_Qi E ad S r0 C0 M0) args s 0 0 (wg_A E)) 5 E ad S 0 0 pc C M lv st
set_option maxHeartbeats 4000000 in
set_option maxRecDepth 100000 in
theorem J_X9_set_j65 {p : Program} {l : Launch} {e : Env} {s : State} {m : MethodId} {args : Array Value} {below : List Frame} {meth : Method} {c : Code} {E : wg_Ev} {ad : Nat → Nat} {S : wg_Sh} (X : wg_X p s m args meth c cX9_set 5 RX9 E) (hr : meth.sig.returnType = (some .int)) (hS : wg_SM S) (r0 : Int32) (D0 : wg_M) (C : wg_C)  (M : wg_M)  (x1 : Int32) (x2 : Int32) (x3 : Int32) (s0 : Int64) (s1 : Int64) (s2 : Int64)   (h : f_X9_set_j65 M  x1 x2 x3 s0 s1 s2 = some (r0, D0)) : G_X9_set p l e s m args below meth c E ad S r0 C D0 65 C M [(0, .ref (ad 55)), (1, .int x1), (2, .int x2), (3, .int x3)] [.long s0, .long s1, .long s2] := by
  unfold f_X9_set_j65 at h
  obtain ⟨r11, h10, h⟩ := bd_some h
  refine wg_callSi (As := [.long s2, .long s1, .long s0]) (rest := []) X (c_X9_in l E ad S C M s2 s1 s0  h10) T_yX9_in k_1021 dX9_set_65 rfl rfl (Nat.le_of_ble_eq_true rfl) ⟨Nat.le_of_ble_eq_true rfl, Nat.le_of_ble_eq_true rfl⟩ ⟨Nat.zero_le _, Nat.zero_le _⟩ ?_
  refine wg_if_ne X 74 dX9_set_68 (by decide) (fun c12 => ?_) (fun c12 => ?_)
  · have h := if_f c12 h
    refine wg_aload_n X 0 dX9_set_74 rfl rfl ?_
    refine wg_iload_n X 2 dX9_set_75 rfl rfl ?_
    refine wg_iload_n X 1 dX9_set_76 rfl rfl ?_
    obtain ⟨r14, h13, h⟩ := bd_some h
    refine wg_callVi (As := [.int x2, .int x1]) (rest := []) X (c_X9_told l E ad S hS C M x2 x1  h13) T_yX9_told k_1035 cl9 (SMi hS 55 9 rfl) dX9_set_77 rfl rfl (Nat.le_of_ble_eq_true rfl) ⟨Nat.le_of_ble_eq_true rfl, Nat.le_of_ble_eq_true rfl⟩ ⟨Nat.zero_le _, Nat.zero_le _⟩ ?_
    refine wg_istore (lv' := [(4, .int r14), (0, .ref (ad 55)), (1, .int x1), (2, .int x2), (3, .int x3)]) X dX9_set_80 rfl (by decide) rfl ?_
    refine wg_iload_n X 2 dX9_set_82 rfl rfl ?_
    refine wg_if_ne X 96 dX9_set_83 (by decide) (fun c15 => ?_) (fun c15 => ?_)
    · have h := if_f c15 h
      refine wg_iload_n X 2 dX9_set_96 rfl rfl ?_
      refine wg_iconst (v := 1) X dX9_set_97 (by decide) ?_
      refine wg_icmp_ne X 111 dX9_set_98 (by decide) (fun c16 => ?_) (fun c16 => ?_)
      · have h := if_f c16 h
        refine wg_iload_n X 2 dX9_set_111 rfl rfl ?_
        refine wg_iconst (v := 2) X dX9_set_112 (by decide) ?_
        refine wg_icmp_ne X 126 dX9_set_113 (by decide) (fun c17 => ?_) (fun c17 => ?_)
        · have h := if_f c17 h
          refine wg_iload_n X 2 dX9_set_126 rfl rfl ?_
          refine wg_iconst (v := 3) X dX9_set_127 (by decide) ?_
          refine wg_icmp_ne X 141 dX9_set_128 (by decide) (fun c18 => ?_) (fun c18 => ?_)
          · have h := if_f c18 h
            refine wg_aload_n X 1 dX9_set_141 rfl rfl ?_
            refine wg_getR (b := 64) X cl9 (SMi hS 55 9 rfl) 12 (by decide) dX9_set_142 k_894 rfl (SMr hS 12 64 rfl) ?_
            refine wg_iload_n X 3 dX9_set_145 rfl rfl ?_
            refine wg_iload_n X 4 dX9_set_146 rfl rfl ?_
            obtain ⟨z19, h⟩ := ck_some h
            obtain ⟨M20, e21, h⟩ := lt_some h
            refine wg_maste X (SMi hS 64 11 rfl) (SMl hS 64 8 rfl) z19 dX9_set_147 e21 ?_
            refine wg_iload X 0 dX9_set_148 rfl ?_
            exact wg_iret X ⟨(Prod.mk.inj (sm_inj h)).1, rfl, (Prod.mk.inj (sm_inj h)).2⟩ hr dX9_set_150
          · have h := if_t c18 h
            refine wg_aload_n X 1 dX9_set_131 rfl rfl ?_
            refine wg_getR (b := 63) X cl9 (SMi hS 55 9 rfl) 11 (by decide) dX9_set_132 k_893 rfl (SMr hS 11 63 rfl) ?_
            refine wg_iload_n X 3 dX9_set_135 rfl rfl ?_
            refine wg_iload_n X 4 dX9_set_136 rfl rfl ?_
            obtain ⟨z22, h⟩ := ck_some h
            obtain ⟨M23, e24, h⟩ := lt_some h
            refine wg_maste X (SMi hS 63 11 rfl) (SMl hS 63 8 rfl) z22 dX9_set_137 e24 ?_
            refine wg_goto X 148 dX9_set_138 (by decide) ?_
            refine wg_iload X 0 dX9_set_148 rfl ?_
            exact wg_iret X ⟨(Prod.mk.inj (sm_inj h)).1, rfl, (Prod.mk.inj (sm_inj h)).2⟩ hr dX9_set_150
        · have h := if_t c17 h
          refine wg_aload_n X 1 dX9_set_116 rfl rfl ?_
          refine wg_getR (b := 62) X cl9 (SMi hS 55 9 rfl) 10 (by decide) dX9_set_117 k_892 rfl (SMr hS 10 62 rfl) ?_
          refine wg_iload_n X 3 dX9_set_120 rfl rfl ?_
          refine wg_iload_n X 4 dX9_set_121 rfl rfl ?_
          obtain ⟨z25, h⟩ := ck_some h
          obtain ⟨M26, e27, h⟩ := lt_some h
          refine wg_maste X (SMi hS 62 11 rfl) (SMl hS 62 8 rfl) z25 dX9_set_122 e27 ?_
          refine wg_goto X 148 dX9_set_123 (by decide) ?_
          refine wg_iload X 0 dX9_set_148 rfl ?_
          exact wg_iret X ⟨(Prod.mk.inj (sm_inj h)).1, rfl, (Prod.mk.inj (sm_inj h)).2⟩ hr dX9_set_150
      · have h := if_t c16 h
        refine wg_aload_n X 1 dX9_set_101 rfl rfl ?_
        refine wg_getR (b := 61) X cl9 (SMi hS 55 9 rfl) 9 (by decide) dX9_set_102 k_891 rfl (SMr hS 9 61 rfl) ?_
        refine wg_iload_n X 3 dX9_set_105 rfl rfl ?_
        refine wg_iload_n X 4 dX9_set_106 rfl rfl ?_
        obtain ⟨z28, h⟩ := ck_some h
        obtain ⟨M29, e30, h⟩ := lt_some h
        refine wg_maste X (SMi hS 61 11 rfl) (SMl hS 61 8 rfl) z28 dX9_set_107 e30 ?_
        refine wg_goto X 148 dX9_set_108 (by decide) ?_
        refine wg_iload X 0 dX9_set_148 rfl ?_
        exact wg_iret X ⟨(Prod.mk.inj (sm_inj h)).1, rfl, (Prod.mk.inj (sm_inj h)).2⟩ hr dX9_set_150
    · have h := if_t c15 h
      refine wg_aload_n X 1 dX9_set_86 rfl rfl ?_
      refine wg_getR (b := 59) X cl9 (SMi hS 55 9 rfl) 7 (by decide) dX9_set_87 k_889 rfl (SMr hS 7 59 rfl) ?_
      refine wg_iload_n X 3 dX9_set_90 rfl rfl ?_
      refine wg_iload_n X 4 dX9_set_91 rfl rfl ?_
      obtain ⟨z31, h⟩ := ck_some h
      obtain ⟨M32, e33, h⟩ := lt_some h
      refine wg_maste X (SMi hS 59 11 rfl) (SMl hS 59 32 rfl) z31 dX9_set_92 e33 ?_
      refine wg_goto X 148 dX9_set_93 (by decide) ?_
      refine wg_iload X 0 dX9_set_148 rfl ?_
      exact wg_iret X ⟨(Prod.mk.inj (sm_inj h)).1, rfl, (Prod.mk.inj (sm_inj h)).2⟩ hr dX9_set_150
  · have h := if_t c12 h
    refine wg_bipush (v := -100) X dX9_set_71 (by decide) ?_
    exact wg_iret X ⟨(Prod.mk.inj (sm_inj h)).1, rfl, (Prod.mk.inj (sm_inj h)).2⟩ hr dX9_set_73
set_option maxHeartbeats 4000000 in
set_option maxRecDepth 100000 in
theorem J_X9_set_j51 {p : Program} {l : Launch} {e : Env} {s : State} {m : MethodId} {args : Array Value} {below : List Frame} {meth : Method} {c : Code} {E : wg_Ev} {ad : Nat → Nat} {S : wg_Sh} (X : wg_X p s m args meth c cX9_set 5 RX9 E) (hr : meth.sig.returnType = (some .int)) (hS : wg_SM S) (r0 : Int32) (D0 : wg_M) (C : wg_C)  (M : wg_M)  (x1 : Int32) (x2 : Int32) (x3 : Int32) (s0 : Int64) (s1 : Int64)   (h : f_X9_set_j51 M  x1 x2 x3 s0 s1 = some (r0, D0)) : G_X9_set p l e s m args below meth c E ad S r0 C D0 51 C M [(0, .ref (ad 55)), (1, .int x1), (2, .int x2), (3, .int x3)] [.long s0, .long s1] := by
  unfold f_X9_set_j51 at h
  refine wg_iload_n X 1 dX9_set_51 rfl rfl ?_
  refine wg_iconst (v := 2) X dX9_set_52 (by decide) ?_
  refine wg_icmp_le X 62 dX9_set_53 (by decide) (fun c9 => ?_) (fun c9 => ?_)
  · have h := if_t c9 h
    refine wg_ldc2 (v := 9) X dX9_set_62 k_1034 ?_
    exact J_X9_set_j65 X hr hS r0 D0 C  M  x1 x2 x3 (9 : Int64) s0 s1   h
  · have h := if_f c9 h
    refine wg_ldc2 (v := 5) X dX9_set_56 k_1033 ?_
    refine wg_goto X 65 dX9_set_59 (by decide) ?_
    exact J_X9_set_j65 X hr hS r0 D0 C  M  x1 x2 x3 (5 : Int64) s0 s1   h
set_option maxHeartbeats 4000000 in
set_option maxRecDepth 100000 in
theorem J_X9_set_j37 {p : Program} {l : Launch} {e : Env} {s : State} {m : MethodId} {args : Array Value} {below : List Frame} {meth : Method} {c : Code} {E : wg_Ev} {ad : Nat → Nat} {S : wg_Sh} (X : wg_X p s m args meth c cX9_set 5 RX9 E) (hr : meth.sig.returnType = (some .int)) (hS : wg_SM S) (r0 : Int32) (D0 : wg_M) (C : wg_C)  (M : wg_M)  (x1 : Int32) (x2 : Int32) (x3 : Int32)   (h : f_X9_set_j37 M  x1 x2 x3 = some (r0, D0)) : G_X9_set p l e s m args below meth c E ad S r0 C D0 37 C M [(0, .ref (ad 55)), (1, .int x1), (2, .int x2), (3, .int x3)] [] := by
  unfold f_X9_set_j37 at h
  refine wg_iload_n X 3 dX9_set_37 rfl rfl ?_
  refine wg_i2l X dX9_set_38 ?_
  refine wg_iload_n X 1 dX9_set_39 rfl rfl ?_
  refine wg_iconst (v := 2) X dX9_set_40 (by decide) ?_
  refine wg_icmp_ne X 50 dX9_set_41 (by decide) (fun c8 => ?_) (fun c8 => ?_)
  · have h := if_f c8 h
    refine wg_lconst (v := 0) X dX9_set_50 (by decide) ?_
    exact J_X9_set_j51 X hr hS r0 D0 C  M  x1 x2 x3 (0 : Int64) x3.toInt64   h
  · have h := if_t c8 h
    refine wg_ldc2 (v := -9) X dX9_set_44 k_1032 ?_
    refine wg_goto X 51 dX9_set_47 (by decide) ?_
    exact J_X9_set_j51 X hr hS r0 D0 C  M  x1 x2 x3 (-9 : Int64) x3.toInt64   h
set_option maxHeartbeats 4000000 in
set_option maxRecDepth 100000 in
theorem c_X9_set (l : Launch) (E : wg_Ev) (ad : Nat → Nat) (S : wg_Sh) (hS : wg_SM S) (C : wg_C) (M : wg_M) (p1 : Int32) (p2 : Int32) (p3 : Int32)  {r0 : Int32} {D0 : wg_M} (h : f_X9_set M p1 p2 p3 = some (r0, D0)) : wg_Ci l yX9_set cX9_set 5 (some .int) 3 68 E ad S C M [.ref (ad 55), .int p1, .int p2, .int p3] r0 C D0 := by
  refine wg_start (own := RX9) (by decide +kernel) rfl (Nat.le_of_ble_eq_true rfl) ?_
  intro p e s m below meth c X hr hnm
  refine wg_lv (lv' := [(0, .ref (ad 55)), (1, .int p1), (2, .int p2), (3, .int p3)]) rfl ?_
  unfold f_X9_set at h
  refine wg_iload_n X 1 dX9_set_0 rfl rfl ?_
  refine wg_i2l X dX9_set_1 ?_
  refine wg_lconst (v := 0) X dX9_set_2 (by decide) ?_
  refine wg_ldc2 (v := 4) X dX9_set_3 k_1020 ?_
  obtain ⟨r2, h1, h⟩ := bd_some h
  refine wg_callSi (As := [.long (p1.toInt64), .long (0 : Int64), .long (4 : Int64)]) (rest := []) X (c_X9_in l E ad S C M p1.toInt64 (0 : Int64) (4 : Int64)  h1) T_yX9_in k_1021 dX9_set_6 rfl rfl (Nat.le_of_ble_eq_true rfl) ⟨Nat.le_of_ble_eq_true rfl, Nat.le_of_ble_eq_true rfl⟩ ⟨Nat.zero_le _, Nat.zero_le _⟩ ?_
  refine wg_if_eq X 34 dX9_set_9 (by decide) (fun c3 => ?_) (fun c3 => ?_)
  · have h := if_t c3 h
    refine wg_bipush (v := -100) X dX9_set_34 (by decide) ?_
    exact wg_iret X ⟨(Prod.mk.inj (sm_inj h)).1, rfl, (Prod.mk.inj (sm_inj h)).2⟩ hr dX9_set_36
  · have h := if_f c3 h
    refine wg_iload_n X 1 dX9_set_12 rfl rfl ?_
    refine wg_if_ne X 26 dX9_set_13 (by decide) (fun c4 => ?_) (fun c4 => ?_)
    · have h := if_f c4 h
      refine wg_aload_n X 0 dX9_set_26 rfl rfl ?_
      refine wg_iload_n X 2 dX9_set_27 rfl rfl ?_
      obtain ⟨r6, h5, h⟩ := bd_some h
      refine wg_callVi (As := [.int p2]) (rest := []) X (c_X9_isPane l E ad S hS C M p2  h5) T_yX9_isPane k_1028 cl9 (SMi hS 55 9 rfl) dX9_set_28 rfl rfl (Nat.le_of_ble_eq_true rfl) ⟨Nat.le_of_ble_eq_true rfl, Nat.le_of_ble_eq_true rfl⟩ ⟨Nat.zero_le _, Nat.zero_le _⟩ ?_
      refine wg_if_ne X 37 dX9_set_31 (by decide) (fun c7 => ?_) (fun c7 => ?_)
      · have h := if_f c7 h
        exact J_X9_set_j37 X hr hS r0 D0 C  M  p1 p2 p3   h
      · have h := if_t c7 h
        refine wg_bipush (v := -100) X dX9_set_34 (by decide) ?_
        exact wg_iret X ⟨(Prod.mk.inj (sm_inj h)).1, rfl, (Prod.mk.inj (sm_inj h)).2⟩ hr dX9_set_36
    · have h := if_t c4 h
      refine wg_iload_n X 2 dX9_set_16 rfl rfl ?_
      obtain ⟨r35, h34, h⟩ := bd_some h
      refine wg_callSi (As := [.int p2]) (rest := []) X (c_X9_isDay l E ad S C M p2  h34) T_yX9_isDay k_1024 dX9_set_17 rfl rfl (Nat.le_of_ble_eq_true rfl) ⟨Nat.le_of_ble_eq_true rfl, Nat.le_of_ble_eq_true rfl⟩ ⟨Nat.zero_le _, Nat.zero_le _⟩ ?_
      refine wg_if_eq X 34 dX9_set_20 (by decide) (fun c36 => ?_) (fun c36 => ?_)
      · have h := if_t c36 h
        refine wg_bipush (v := -100) X dX9_set_34 (by decide) ?_
        exact wg_iret X ⟨(Prod.mk.inj (sm_inj h)).1, rfl, (Prod.mk.inj (sm_inj h)).2⟩ hr dX9_set_36
      · have h := if_f c36 h
        refine wg_goto X 37 dX9_set_23 (by decide) ?_
        exact J_X9_set_j37 X hr hS r0 D0 C  M  p1 p2 p3   h
-- WindowsGiveModel.pane(III)I (('c', 55), 'i', 'i', 'i')
def f_X9_pane (M : wg_M) (p1 : Int32) (p2 : Int32) (p3 : Int32) : Option (Int32 × wg_M) :=
  bd (f_X9_in p1.toInt64 (0 : Int64) (5 : Int64)) fun r2 =>
  if r2 = 0 then (
    some ((-2 : Int32), M))
  else (
    bd (f_X9_in p2.toInt64 (0 : Int64) (918 : Int64)) fun r5 =>
    if r5 = 0 then (
      some ((-2 : Int32), M))
    else (
      if (18 : Int32) < (p2 - p2 / (100 : Int32) * (100 : Int32)) then (
        some ((-2 : Int32), M))
      else (
        bd (f_X9_in p3.toInt64 (0 : Int64) (55 : Int64)) fun r9 =>
        if r9 = 0 then (
          some ((-2 : Int32), M))
        else (
          bd (f_X9_isRoom (p3 - p3 / (10 : Int32) * (10 : Int32))) fun r12 =>
          if r12 = 0 then (
            some ((-2 : Int32), M))
          else (
            if (M.1 55 13) = (8 : Int32) then (
              some ((-4 : Int32), M))
            else (
              ck (inb (M.1 55 13) 8) <|
              lt_ (wg_sM M 60 (M.1 55 13).toNatClampNeg p1) fun M16 =>
              ck (inb (M16.1 55 13) 8) <|
              lt_ (wg_sM M16 61 (M16.1 55 13).toNatClampNeg (p2 / (100 : Int32))) fun M19 =>
              ck (inb (M19.1 55 13) 8) <|
              lt_ (wg_sM M19 62 (M19.1 55 13).toNatClampNeg ((p2 - p2 / (100 : Int32) * (100 : Int32)) - (9 : Int32))) fun M22 =>
              ck (inb (M22.1 55 13) 8) <|
              lt_ (wg_sM M22 63 (M22.1 55 13).toNatClampNeg (p3 / (10 : Int32))) fun M25 =>
              ck (inb (M25.1 55 13) 8) <|
              lt_ (wg_sM M25 64 (M25.1 55 13).toNatClampNeg (p3 - p3 / (10 : Int32) * (10 : Int32))) fun M28 =>
              lt_ (wg_sM M28 55 13 ((M28.1 55 13) + (1 : Int32))) fun M30 =>
              some (((M30.1 55 13) - (1 : Int32)), M30)))))))
set_option maxHeartbeats 4000000 in
set_option maxRecDepth 100000 in
theorem c_X9_pane (l : Launch) (E : wg_Ev) (ad : Nat → Nat) (S : wg_Sh) (hS : wg_SM S) (C : wg_C) (M : wg_M) (p1 : Int32) (p2 : Int32) (p3 : Int32)  {r0 : Int32} {D0 : wg_M} (h : f_X9_pane M p1 p2 p3 = some (r0, D0)) : wg_Ci l yX9_pane cX9_pane 4 (some .int) 2 45 E ad S C M [.ref (ad 55), .int p1, .int p2, .int p3] r0 C D0 := by
  refine wg_start (own := RX9) (by decide +kernel) rfl (Nat.le_of_ble_eq_true rfl) ?_
  intro p e s m below meth c X hr hnm
  refine wg_lv (lv' := [(0, .ref (ad 55)), (1, .int p1), (2, .int p2), (3, .int p3)]) rfl ?_
  unfold f_X9_pane at h
  refine wg_iload_n X 1 dX9_pane_0 rfl rfl ?_
  refine wg_i2l X dX9_pane_1 ?_
  refine wg_lconst (v := 0) X dX9_pane_2 (by decide) ?_
  refine wg_ldc2 (v := 5) X dX9_pane_3 k_1033 ?_
  obtain ⟨r2, h1, h⟩ := bd_some h
  refine wg_callSi (As := [.long (p1.toInt64), .long (0 : Int64), .long (5 : Int64)]) (rest := []) X (c_X9_in l E ad S C M p1.toInt64 (0 : Int64) (5 : Int64)  h1) T_yX9_in k_1021 dX9_pane_6 rfl rfl (Nat.le_of_ble_eq_true rfl) ⟨Nat.le_of_ble_eq_true rfl, Nat.le_of_ble_eq_true rfl⟩ ⟨Nat.zero_le _, Nat.zero_le _⟩ ?_
  refine wg_if_eq X 55 dX9_pane_9 (by decide) (fun c3 => ?_) (fun c3 => ?_)
  · have h := if_t c3 h
    refine wg_bipush (v := -2) X dX9_pane_55 (by decide) ?_
    exact wg_iret X ⟨(Prod.mk.inj (sm_inj h)).1, rfl, (Prod.mk.inj (sm_inj h)).2⟩ hr dX9_pane_57
  · have h := if_f c3 h
    refine wg_iload_n X 2 dX9_pane_12 rfl rfl ?_
    refine wg_i2l X dX9_pane_13 ?_
    refine wg_lconst (v := 0) X dX9_pane_14 (by decide) ?_
    refine wg_ldc2 (v := 918) X dX9_pane_15 k_1048 ?_
    obtain ⟨r5, h4, h⟩ := bd_some h
    refine wg_callSi (As := [.long (p2.toInt64), .long (0 : Int64), .long (918 : Int64)]) (rest := []) X (c_X9_in l E ad S C M p2.toInt64 (0 : Int64) (918 : Int64)  h4) T_yX9_in k_1021 dX9_pane_18 rfl rfl (Nat.le_of_ble_eq_true rfl) ⟨Nat.le_of_ble_eq_true rfl, Nat.le_of_ble_eq_true rfl⟩ ⟨Nat.zero_le _, Nat.zero_le _⟩ ?_
    refine wg_if_eq X 55 dX9_pane_21 (by decide) (fun c6 => ?_) (fun c6 => ?_)
    · have h := if_t c6 h
      refine wg_bipush (v := -2) X dX9_pane_55 (by decide) ?_
      exact wg_iret X ⟨(Prod.mk.inj (sm_inj h)).1, rfl, (Prod.mk.inj (sm_inj h)).2⟩ hr dX9_pane_57
    · have h := if_f c6 h
      refine wg_iload_n X 2 dX9_pane_24 rfl rfl ?_
      refine wg_bipush (v := 100) X dX9_pane_25 (by decide) ?_
      refine wg_irem X dX9_pane_27 (by decide) ?_
      refine wg_bipush (v := 18) X dX9_pane_28 (by decide) ?_
      refine wg_icmp_gt X 55 dX9_pane_30 (by decide) (fun c7 => ?_) (fun c7 => ?_)
      · have h := if_t c7 h
        refine wg_bipush (v := -2) X dX9_pane_55 (by decide) ?_
        exact wg_iret X ⟨(Prod.mk.inj (sm_inj h)).1, rfl, (Prod.mk.inj (sm_inj h)).2⟩ hr dX9_pane_57
      · have h := if_f c7 h
        refine wg_iload_n X 3 dX9_pane_33 rfl rfl ?_
        refine wg_i2l X dX9_pane_34 ?_
        refine wg_lconst (v := 0) X dX9_pane_35 (by decide) ?_
        refine wg_ldc2 (v := 55) X dX9_pane_36 k_1049 ?_
        obtain ⟨r9, h8, h⟩ := bd_some h
        refine wg_callSi (As := [.long (p3.toInt64), .long (0 : Int64), .long (55 : Int64)]) (rest := []) X (c_X9_in l E ad S C M p3.toInt64 (0 : Int64) (55 : Int64)  h8) T_yX9_in k_1021 dX9_pane_39 rfl rfl (Nat.le_of_ble_eq_true rfl) ⟨Nat.le_of_ble_eq_true rfl, Nat.le_of_ble_eq_true rfl⟩ ⟨Nat.zero_le _, Nat.zero_le _⟩ ?_
        refine wg_if_eq X 55 dX9_pane_42 (by decide) (fun c10 => ?_) (fun c10 => ?_)
        · have h := if_t c10 h
          refine wg_bipush (v := -2) X dX9_pane_55 (by decide) ?_
          exact wg_iret X ⟨(Prod.mk.inj (sm_inj h)).1, rfl, (Prod.mk.inj (sm_inj h)).2⟩ hr dX9_pane_57
        · have h := if_f c10 h
          refine wg_iload_n X 3 dX9_pane_45 rfl rfl ?_
          refine wg_bipush (v := 10) X dX9_pane_46 (by decide) ?_
          refine wg_irem X dX9_pane_48 (by decide) ?_
          obtain ⟨r12, h11, h⟩ := bd_some h
          refine wg_callSi (As := [.int (p3 - p3 / (10 : Int32) * (10 : Int32))]) (rest := []) X (c_X9_isRoom l E ad S C M (p3 - p3 / (10 : Int32) * (10 : Int32))  h11) T_yX9_isRoom k_1050 dX9_pane_49 rfl rfl (Nat.le_of_ble_eq_true rfl) ⟨Nat.le_of_ble_eq_true rfl, Nat.le_of_ble_eq_true rfl⟩ ⟨Nat.zero_le _, Nat.zero_le _⟩ ?_
          refine wg_if_ne X 58 dX9_pane_52 (by decide) (fun c13 => ?_) (fun c13 => ?_)
          · have h := if_f c13 h
            refine wg_aload_n X 0 dX9_pane_58 rfl rfl ?_
            refine wg_getM X cl9 (SMi hS 55 9 rfl) 13 (by decide) dX9_pane_59 k_895 rfl ?_
            refine wg_bipush (v := 8) X dX9_pane_62 (by decide) ?_
            refine wg_icmp_ne X 70 dX9_pane_64 (by decide) (fun c14 => ?_) (fun c14 => ?_)
            · have h := if_f c14 h
              refine wg_aload_n X 0 dX9_pane_70 rfl rfl ?_
              refine wg_getR (b := 60) X cl9 (SMi hS 55 9 rfl) 8 (by decide) dX9_pane_71 k_890 rfl (SMr hS 8 60 rfl) ?_
              refine wg_aload_n X 0 dX9_pane_74 rfl rfl ?_
              refine wg_getM X cl9 (SMi hS 55 9 rfl) 13 (by decide) dX9_pane_75 k_895 rfl ?_
              refine wg_iload_n X 1 dX9_pane_78 rfl rfl ?_
              obtain ⟨z15, h⟩ := ck_some h
              obtain ⟨M16, e17, h⟩ := lt_some h
              refine wg_maste X (SMi hS 60 11 rfl) (SMl hS 60 8 rfl) z15 dX9_pane_79 e17 ?_
              refine wg_aload_n X 0 dX9_pane_80 rfl rfl ?_
              refine wg_getR (b := 61) X cl9 (SMi hS 55 9 rfl) 9 (by decide) dX9_pane_81 k_891 rfl (SMr hS 9 61 rfl) ?_
              refine wg_aload_n X 0 dX9_pane_84 rfl rfl ?_
              refine wg_getM X cl9 (SMi hS 55 9 rfl) 13 (by decide) dX9_pane_85 k_895 rfl ?_
              refine wg_iload_n X 2 dX9_pane_88 rfl rfl ?_
              refine wg_bipush (v := 100) X dX9_pane_89 (by decide) ?_
              refine wg_idiv X dX9_pane_91 (by decide) ?_
              obtain ⟨z18, h⟩ := ck_some h
              obtain ⟨M19, e20, h⟩ := lt_some h
              refine wg_maste X (SMi hS 61 11 rfl) (SMl hS 61 8 rfl) z18 dX9_pane_92 e20 ?_
              refine wg_aload_n X 0 dX9_pane_93 rfl rfl ?_
              refine wg_getR (b := 62) X cl9 (SMi hS 55 9 rfl) 10 (by decide) dX9_pane_94 k_892 rfl (SMr hS 10 62 rfl) ?_
              refine wg_aload_n X 0 dX9_pane_97 rfl rfl ?_
              refine wg_getM X cl9 (SMi hS 55 9 rfl) 13 (by decide) dX9_pane_98 k_895 rfl ?_
              refine wg_iload_n X 2 dX9_pane_101 rfl rfl ?_
              refine wg_bipush (v := 100) X dX9_pane_102 (by decide) ?_
              refine wg_irem X dX9_pane_104 (by decide) ?_
              refine wg_bipush (v := 9) X dX9_pane_105 (by decide) ?_
              refine wg_isub X dX9_pane_107 ?_
              obtain ⟨z21, h⟩ := ck_some h
              obtain ⟨M22, e23, h⟩ := lt_some h
              refine wg_maste X (SMi hS 62 11 rfl) (SMl hS 62 8 rfl) z21 dX9_pane_108 e23 ?_
              refine wg_aload_n X 0 dX9_pane_109 rfl rfl ?_
              refine wg_getR (b := 63) X cl9 (SMi hS 55 9 rfl) 11 (by decide) dX9_pane_110 k_893 rfl (SMr hS 11 63 rfl) ?_
              refine wg_aload_n X 0 dX9_pane_113 rfl rfl ?_
              refine wg_getM X cl9 (SMi hS 55 9 rfl) 13 (by decide) dX9_pane_114 k_895 rfl ?_
              refine wg_iload_n X 3 dX9_pane_117 rfl rfl ?_
              refine wg_bipush (v := 10) X dX9_pane_118 (by decide) ?_
              refine wg_idiv X dX9_pane_120 (by decide) ?_
              obtain ⟨z24, h⟩ := ck_some h
              obtain ⟨M25, e26, h⟩ := lt_some h
              refine wg_maste X (SMi hS 63 11 rfl) (SMl hS 63 8 rfl) z24 dX9_pane_121 e26 ?_
              refine wg_aload_n X 0 dX9_pane_122 rfl rfl ?_
              refine wg_getR (b := 64) X cl9 (SMi hS 55 9 rfl) 12 (by decide) dX9_pane_123 k_894 rfl (SMr hS 12 64 rfl) ?_
              refine wg_aload_n X 0 dX9_pane_126 rfl rfl ?_
              refine wg_getM X cl9 (SMi hS 55 9 rfl) 13 (by decide) dX9_pane_127 k_895 rfl ?_
              refine wg_iload_n X 3 dX9_pane_130 rfl rfl ?_
              refine wg_bipush (v := 10) X dX9_pane_131 (by decide) ?_
              refine wg_irem X dX9_pane_133 (by decide) ?_
              obtain ⟨z27, h⟩ := ck_some h
              obtain ⟨M28, e29, h⟩ := lt_some h
              refine wg_maste X (SMi hS 64 11 rfl) (SMl hS 64 8 rfl) z27 dX9_pane_134 e29 ?_
              refine wg_aload_n X 0 dX9_pane_135 rfl rfl ?_
              refine wg_dup X dX9_pane_136 rfl ?_
              refine wg_getM X cl9 (SMi hS 55 9 rfl) 13 (by decide) dX9_pane_137 k_895 rfl ?_
              refine wg_iconst (v := 1) X dX9_pane_140 (by decide) ?_
              refine wg_iadd X dX9_pane_141 ?_
              obtain ⟨M30, e31, h⟩ := lt_some h
              refine wg_putMe X cl9 (SMi hS 55 9 rfl) 13 (by decide) dX9_pane_142 k_895 rfl rfl rfl rfl e31 ?_
              refine wg_aload_n X 0 dX9_pane_145 rfl rfl ?_
              refine wg_getM X cl9 (SMi hS 55 9 rfl) 13 (by decide) dX9_pane_146 k_895 rfl ?_
              refine wg_iconst (v := 1) X dX9_pane_149 (by decide) ?_
              refine wg_isub X dX9_pane_150 ?_
              exact wg_iret X ⟨(Prod.mk.inj (sm_inj h)).1, rfl, (Prod.mk.inj (sm_inj h)).2⟩ hr dX9_pane_151
            · have h := if_t c14 h
              refine wg_bipush (v := -4) X dX9_pane_67 (by decide) ?_
              exact wg_iret X ⟨(Prod.mk.inj (sm_inj h)).1, rfl, (Prod.mk.inj (sm_inj h)).2⟩ hr dX9_pane_69
          · have h := if_t c13 h
            refine wg_bipush (v := -2) X dX9_pane_55 (by decide) ?_
            exact wg_iret X ⟨(Prod.mk.inj (sm_inj h)).1, rfl, (Prod.mk.inj (sm_inj h)).2⟩ hr dX9_pane_57
-- WindowsGiveModel.on(II)I (('c', 55), 'i', 'i')
def f_X9_on_j47 (M : wg_M)  (x1 : Int32) (x2 : Int32) : Option Int32 :=
  ck (inb x1 8) <|
  ck (inb x1 8) <|
  some ((x2 + (M.1 62 x1.toNatClampNeg)) - (M.1 61 x1.toNatClampNeg))
def f_X9_on (M : wg_M) (p1 : Int32) (p2 : Int32) : Option Int32 :=
  ck (inb p1 8) <|
  lt_ (M.1 60 p1.toNatClampNeg) fun v2 =>
  if v2 = (4 : Int32) then (
    some p2)
  else (
    if v2 = (5 : Int32) then (
      ck (inb p1 8) <|
      ck (inb p1 8) <|
      some (p2 + ((M.1 62 p1.toNatClampNeg) * ((M.1 61 p1.toNatClampNeg) + (1 : Int32)))))
    else (
      if v2 = (1 : Int32) then (
        f_X9_on_j47 M  p1 p2)
      else (
        if v2 = (3 : Int32) then (
          f_X9_on_j47 M  p1 p2)
        else (
          ck (inb p1 8) <|
          some (p2 + (M.1 62 p1.toNatClampNeg))))))
abbrev G_X9_on (p : Program) (l : Launch) (e : Env) (s : State) (m : MethodId) (args : Array Value) (below : List Frame) (meth : Method) (c : Code) (E : wg_Ev) (ad : Nat → Nat) (S : wg_Sh) (r0 : Int32) (C0 : wg_C) (M0 : wg_M) (pc : Nat) (C : wg_C) (M : wg_M) (lv : List (Nat × Value)) (st : List Value) : Prop := wg_G p l e (wg_Rm 0 0) s m args below meth c (MQ below (wg_Qi E ad S r0 C0 M0) args s 0 0 (wg_A E)) 4 E ad S 0 0 pc C M lv st
set_option maxHeartbeats 4000000 in
set_option maxRecDepth 100000 in
theorem J_X9_on_j47 {p : Program} {l : Launch} {e : Env} {s : State} {m : MethodId} {args : Array Value} {below : List Frame} {meth : Method} {c : Code} {E : wg_Ev} {ad : Nat → Nat} {S : wg_Sh} (X : wg_X p s m args meth c cX9_on 4 RX9 E) (hr : meth.sig.returnType = (some .int)) (hS : wg_SM S) (r0 : Int32) (C : wg_C)  (M : wg_M)  (x1 : Int32) (x2 : Int32)   (h : f_X9_on_j47 M  x1 x2 = some r0) : G_X9_on p l e s m args below meth c E ad S r0 C M 47 C M [(0, .ref (ad 55)), (1, .int x1), (2, .int x2)] [] := by
  unfold f_X9_on_j47 at h
  refine wg_iload_n X 2 dX9_on_47 rfl rfl ?_
  refine wg_aload_n X 0 dX9_on_48 rfl rfl ?_
  refine wg_getR (b := 62) X cl9 (SMi hS 55 9 rfl) 10 (by decide) dX9_on_49 k_892 rfl (SMr hS 10 62 rfl) ?_
  refine wg_iload_n X 1 dX9_on_52 rfl rfl ?_
  obtain ⟨z7, h⟩ := ck_some h
  refine wg_mald X (SMi hS 62 11 rfl) (SMl hS 62 8 rfl) z7 dX9_on_53 ?_
  refine wg_iadd X dX9_on_54 ?_
  refine wg_aload_n X 0 dX9_on_55 rfl rfl ?_
  refine wg_getR (b := 61) X cl9 (SMi hS 55 9 rfl) 9 (by decide) dX9_on_56 k_891 rfl (SMr hS 9 61 rfl) ?_
  refine wg_iload_n X 1 dX9_on_59 rfl rfl ?_
  obtain ⟨z8, h⟩ := ck_some h
  refine wg_mald X (SMi hS 61 11 rfl) (SMl hS 61 8 rfl) z8 dX9_on_60 ?_
  refine wg_isub X dX9_on_61 ?_
  refine wg_goto X 73 dX9_on_62 (by decide) ?_
  exact wg_iret X ⟨(sm_inj h), rfl, rfl⟩ hr dX9_on_73
set_option maxHeartbeats 4000000 in
set_option maxRecDepth 100000 in
theorem c_X9_on (l : Launch) (E : wg_Ev) (ad : Nat → Nat) (S : wg_Sh) (hS : wg_SM S) (C : wg_C) (M : wg_M) (p1 : Int32) (p2 : Int32)  {r0 : Int32} (h : f_X9_on M p1 p2 = some r0) : wg_Ci l yX9_on cX9_on 4 (some .int) 0 0 E ad S C M [.ref (ad 55), .int p1, .int p2] r0 C M := by
  refine wg_start (own := RX9) (by decide +kernel) rfl (Nat.le_of_ble_eq_true rfl) ?_
  intro p e s m below meth c X hr hnm
  refine wg_lv (lv' := [(0, .ref (ad 55)), (1, .int p1), (2, .int p2)]) rfl ?_
  unfold f_X9_on at h
  refine wg_aload_n X 0 dX9_on_0 rfl rfl ?_
  refine wg_getR (b := 60) X cl9 (SMi hS 55 9 rfl) 8 (by decide) dX9_on_1 k_890 rfl (SMr hS 8 60 rfl) ?_
  refine wg_iload_n X 1 dX9_on_4 rfl rfl ?_
  obtain ⟨z1, h⟩ := ck_some h
  refine wg_mald X (SMi hS 60 11 rfl) (SMl hS 60 8 rfl) z1 dX9_on_5 ?_
  obtain ⟨v2, e3, h⟩ := lt_some h
  refine wg_istore_n (lv' := [(3, .int v2), (0, .ref (ad 55)), (1, .int p1), (2, .int p2)]) X dX9_on_6 rfl e3 (by decide) rfl ?_
  refine wg_iload_n X 0 dX9_on_7 rfl rfl ?_
  refine wg_iconst (v := 4) X dX9_on_8 (by decide) ?_
  refine wg_icmp_ne X 14 dX9_on_9 (by decide) (fun c4 => ?_) (fun c4 => ?_)
  · have h := if_f c4 h
    refine wg_iload_n X 0 dX9_on_14 rfl rfl ?_
    refine wg_iconst (v := 5) X dX9_on_15 (by decide) ?_
    refine wg_icmp_ne X 37 dX9_on_16 (by decide) (fun c5 => ?_) (fun c5 => ?_)
    · have h := if_f c5 h
      refine wg_iload_n X 0 dX9_on_37 rfl rfl ?_
      refine wg_iconst (v := 1) X dX9_on_38 (by decide) ?_
      refine wg_icmp_eq X 47 dX9_on_39 (by decide) (fun c6 => ?_) (fun c6 => ?_)
      · have h := if_t c6 h
        refine wg_pick [1, 2, 3] (lv' := [(0, .ref (ad 55)), (1, .int p1), (2, .int p2)]) rfl ?_
        exact J_X9_on_j47 X hr hS r0 C  M  p1 p2   h
      · have h := if_f c6 h
        refine wg_iload_n X 0 dX9_on_42 rfl rfl ?_
        refine wg_iconst (v := 3) X dX9_on_43 (by decide) ?_
        refine wg_icmp_ne X 65 dX9_on_44 (by decide) (fun c9 => ?_) (fun c9 => ?_)
        · have h := if_f c9 h
          refine wg_iload_n X 3 dX9_on_65 rfl rfl ?_
          refine wg_aload_n X 1 dX9_on_66 rfl rfl ?_
          refine wg_getR (b := 62) X cl9 (SMi hS 55 9 rfl) 10 (by decide) dX9_on_67 k_892 rfl (SMr hS 10 62 rfl) ?_
          refine wg_iload_n X 2 dX9_on_70 rfl rfl ?_
          obtain ⟨z10, h⟩ := ck_some h
          refine wg_mald X (SMi hS 62 11 rfl) (SMl hS 62 8 rfl) z10 dX9_on_71 ?_
          refine wg_iadd X dX9_on_72 ?_
          exact wg_iret X ⟨(sm_inj h), rfl, rfl⟩ hr dX9_on_73
        · have h := if_t c9 h
          refine wg_pick [1, 2, 3] (lv' := [(0, .ref (ad 55)), (1, .int p1), (2, .int p2)]) rfl ?_
          exact J_X9_on_j47 X hr hS r0 C  M  p1 p2   h
    · have h := if_t c5 h
      refine wg_iload_n X 3 dX9_on_19 rfl rfl ?_
      refine wg_aload_n X 1 dX9_on_20 rfl rfl ?_
      refine wg_getR (b := 62) X cl9 (SMi hS 55 9 rfl) 10 (by decide) dX9_on_21 k_892 rfl (SMr hS 10 62 rfl) ?_
      refine wg_iload_n X 2 dX9_on_24 rfl rfl ?_
      obtain ⟨z11, h⟩ := ck_some h
      refine wg_mald X (SMi hS 62 11 rfl) (SMl hS 62 8 rfl) z11 dX9_on_25 ?_
      refine wg_aload_n X 1 dX9_on_26 rfl rfl ?_
      refine wg_getR (b := 61) X cl9 (SMi hS 55 9 rfl) 9 (by decide) dX9_on_27 k_891 rfl (SMr hS 9 61 rfl) ?_
      refine wg_iload_n X 2 dX9_on_30 rfl rfl ?_
      obtain ⟨z12, h⟩ := ck_some h
      refine wg_mald X (SMi hS 61 11 rfl) (SMl hS 61 8 rfl) z12 dX9_on_31 ?_
      refine wg_iconst (v := 1) X dX9_on_32 (by decide) ?_
      refine wg_iadd X dX9_on_33 ?_
      refine wg_imul X dX9_on_34 ?_
      refine wg_iadd X dX9_on_35 ?_
      exact wg_iret X ⟨(sm_inj h), rfl, rfl⟩ hr dX9_on_36
  · have h := if_t c4 h
    refine wg_iload_n X 3 dX9_on_12 rfl rfl ?_
    exact wg_iret X ⟨(sm_inj h), rfl, rfl⟩ hr dX9_on_13
-- WindowsGiveModel.passes(III)Z (('c', 55), 'i', 'i', 'i')
def f_X9_passes_j64 (M : wg_M)  (x3 : Int32) : Option Int32 :=
  if (2 : Int32) ≤ x3 then (
    some (0 : Int32))
  else (
    some (1 : Int32))
def f_X9_passes (M : wg_M) (p1 : Int32) (p2 : Int32) (p3 : Int32) : Option Int32 :=
  ck (inb p1 8) <|
  lt_ (M.1 60 p1.toNatClampNeg) fun v2 =>
  bd (f_X9_on M p1 p2) fun r5 =>
  bd (f_X9_isDay r5) fun r7 =>
  if r7 = 0 then (
    some (0 : Int32))
  else (
    if v2 = (5 : Int32) then (
      ck (inb p1 8) <|
      ck (¬ ((M.1 61 p1.toNatClampNeg) + (1 : Int32)) = 0) <|
      if (p2 - p2 / ((M.1 61 p1.toNatClampNeg) + (1 : Int32)) * ((M.1 61 p1.toNatClampNeg) + (1 : Int32))) = 0 then (
        some (1 : Int32))
      else (
        some (0 : Int32)))
    else (
      if v2 = (3 : Int32) then (
        some (1 : Int32))
      else (
        if v2 = 0 then (
          f_X9_passes_j64 M  p3)
        else (
          if v2 = (1 : Int32) then (
            f_X9_passes_j64 M  p3)
          else (
            if v2 = (2 : Int32) then (
              if p3 = (1 : Int32) then (
                some (1 : Int32))
              else (
                some (0 : Int32)))
            else (
              if p3 = 0 then (
                some (1 : Int32))
              else (
                some (0 : Int32))))))))
abbrev G_X9_passes (p : Program) (l : Launch) (e : Env) (s : State) (m : MethodId) (args : Array Value) (below : List Frame) (meth : Method) (c : Code) (E : wg_Ev) (ad : Nat → Nat) (S : wg_Sh) (r0 : Int32) (C0 : wg_C) (M0 : wg_M) (pc : Nat) (C : wg_C) (M : wg_M) (lv : List (Nat × Value)) (st : List Value) : Prop := wg_G p l e (wg_Rm 2 45) s m args below meth c (MQ below (wg_Qi E ad S r0 C0 M0) args s 0 0 (wg_A E)) 5 E ad S 0 0 pc C M lv st
set_option maxHeartbeats 4000000 in
set_option maxRecDepth 100000 in
theorem J_X9_passes_j64 {p : Program} {l : Launch} {e : Env} {s : State} {m : MethodId} {args : Array Value} {below : List Frame} {meth : Method} {c : Code} {E : wg_Ev} {ad : Nat → Nat} {S : wg_Sh} (X : wg_X p s m args meth c cX9_passes 5 RX9 E) (hr : meth.sig.returnType = (some .boolean)) (hS : wg_SM S) (r0 : Int32) (C : wg_C)  (M : wg_M)  (x3 : Int32)   (h : f_X9_passes_j64 M  x3 = some r0) : G_X9_passes p l e s m args below meth c E ad S r0 C M 64 C M [(3, .int x3)] [] := by
  unfold f_X9_passes_j64 at h
  refine wg_iload_n X 0 dX9_passes_64 rfl rfl ?_
  refine wg_iconst (v := 2) X dX9_passes_65 (by decide) ?_
  refine wg_icmp_ge X 94 dX9_passes_66 (by decide) (fun c12 => ?_) (fun c12 => ?_)
  · have h := if_t c12 h
    refine wg_iconst (v := 0) X dX9_passes_94 (by decide) ?_
    exact wg_zret X ⟨(sm_inj h), rfl, rfl⟩ hr (by decide) dX9_passes_95
  · have h := if_f c12 h
    refine wg_goto X 90 dX9_passes_69 (by decide) ?_
    refine wg_iconst (v := 1) X dX9_passes_90 (by decide) ?_
    refine wg_goto X 95 dX9_passes_91 (by decide) ?_
    exact wg_zret X ⟨(sm_inj h), rfl, rfl⟩ hr (by decide) dX9_passes_95
set_option maxHeartbeats 4000000 in
set_option maxRecDepth 100000 in
theorem c_X9_passes (l : Launch) (E : wg_Ev) (ad : Nat → Nat) (S : wg_Sh) (hS : wg_SM S) (C : wg_C) (M : wg_M) (p1 : Int32) (p2 : Int32) (p3 : Int32)  {r0 : Int32} (h : f_X9_passes M p1 p2 p3 = some r0) : wg_Ci l yX9_passes cX9_passes 5 (some .boolean) 2 45 E ad S C M [.ref (ad 55), .int p1, .int p2, .int p3] r0 C M := by
  refine wg_start (own := RX9) (by decide +kernel) rfl (Nat.le_of_ble_eq_true rfl) ?_
  intro p e s m below meth c X hr hnm
  refine wg_lv (lv' := [(0, .ref (ad 55)), (1, .int p1), (2, .int p2), (3, .int p3)]) rfl ?_
  unfold f_X9_passes at h
  refine wg_aload_n X 0 dX9_passes_0 rfl rfl ?_
  refine wg_getR (b := 60) X cl9 (SMi hS 55 9 rfl) 8 (by decide) dX9_passes_1 k_890 rfl (SMr hS 8 60 rfl) ?_
  refine wg_iload_n X 1 dX9_passes_4 rfl rfl ?_
  obtain ⟨z1, h⟩ := ck_some h
  refine wg_mald X (SMi hS 60 11 rfl) (SMl hS 60 8 rfl) z1 dX9_passes_5 ?_
  obtain ⟨v2, e3, h⟩ := lt_some h
  refine wg_istore (lv' := [(4, .int v2), (0, .ref (ad 55)), (1, .int p1), (2, .int p2), (3, .int p3)]) X dX9_passes_6 e3 (by decide) rfl ?_
  refine wg_aload_n X 1 dX9_passes_8 rfl rfl ?_
  refine wg_iload_n X 2 dX9_passes_9 rfl rfl ?_
  refine wg_iload_n X 3 dX9_passes_10 rfl rfl ?_
  obtain ⟨r5, h4, h⟩ := bd_some h
  refine wg_callVi (As := [.int p1, .int p2]) (rest := []) X (c_X9_on l E ad S hS C M p1 p2  h4) T_yX9_on k_1062 cl9 (SMi hS 55 9 rfl) dX9_passes_11 rfl rfl (Nat.le_of_ble_eq_true rfl) ⟨Nat.le_of_ble_eq_true rfl, Nat.le_of_ble_eq_true rfl⟩ ⟨Nat.zero_le _, Nat.zero_le _⟩ ?_
  obtain ⟨r7, h6, h⟩ := bd_some h
  refine wg_callSi (As := [.int r5]) (rest := []) X (c_X9_isDay l E ad S C M r5  h6) T_yX9_isDay k_1024 dX9_passes_14 rfl rfl (Nat.le_of_ble_eq_true rfl) ⟨Nat.le_of_ble_eq_true rfl, Nat.le_of_ble_eq_true rfl⟩ ⟨Nat.zero_le _, Nat.zero_le _⟩ ?_
  refine wg_if_ne X 22 dX9_passes_17 (by decide) (fun c8 => ?_) (fun c8 => ?_)
  · have h := if_f c8 h
    refine wg_iload X 0 dX9_passes_22 rfl ?_
    refine wg_iconst (v := 5) X dX9_passes_24 (by decide) ?_
    refine wg_icmp_ne X 47 dX9_passes_25 (by decide) (fun c9 => ?_) (fun c9 => ?_)
    · have h := if_f c9 h
      refine wg_iload X 0 dX9_passes_47 rfl ?_
      refine wg_iconst (v := 3) X dX9_passes_49 (by decide) ?_
      refine wg_icmp_eq X 90 dX9_passes_50 (by decide) (fun c10 => ?_) (fun c10 => ?_)
      · have h := if_t c10 h
        refine wg_iconst (v := 1) X dX9_passes_90 (by decide) ?_
        refine wg_goto X 95 dX9_passes_91 (by decide) ?_
        exact wg_zret X ⟨(sm_inj h), rfl, rfl⟩ hr (by decide) dX9_passes_95
      · have h := if_f c10 h
        refine wg_iload X 0 dX9_passes_53 rfl ?_
        refine wg_if_eq X 64 dX9_passes_55 (by decide) (fun c11 => ?_) (fun c11 => ?_)
        · have h := if_t c11 h
          refine wg_pick [4] (lv' := [(3, .int p3)]) rfl ?_
          exact J_X9_passes_j64 X hr hS r0 C  M  p3   h
        · have h := if_f c11 h
          refine wg_iload X 0 dX9_passes_58 rfl ?_
          refine wg_iconst (v := 1) X dX9_passes_60 (by decide) ?_
          refine wg_icmp_ne X 72 dX9_passes_61 (by decide) (fun c13 => ?_) (fun c13 => ?_)
          · have h := if_f c13 h
            refine wg_iload X 0 dX9_passes_72 rfl ?_
            refine wg_iconst (v := 2) X dX9_passes_74 (by decide) ?_
            refine wg_icmp_ne X 86 dX9_passes_75 (by decide) (fun c14 => ?_) (fun c14 => ?_)
            · have h := if_f c14 h
              refine wg_iload_n X 4 dX9_passes_86 rfl rfl ?_
              refine wg_if_ne X 94 dX9_passes_87 (by decide) (fun c15 => ?_) (fun c15 => ?_)
              · have h := if_f c15 h
                refine wg_iconst (v := 0) X dX9_passes_94 (by decide) ?_
                exact wg_zret X ⟨(sm_inj h), rfl, rfl⟩ hr (by decide) dX9_passes_95
              · have h := if_t c15 h
                refine wg_iconst (v := 1) X dX9_passes_90 (by decide) ?_
                refine wg_goto X 95 dX9_passes_91 (by decide) ?_
                exact wg_zret X ⟨(sm_inj h), rfl, rfl⟩ hr (by decide) dX9_passes_95
            · have h := if_t c14 h
              refine wg_iload_n X 4 dX9_passes_78 rfl rfl ?_
              refine wg_iconst (v := 1) X dX9_passes_79 (by decide) ?_
              refine wg_icmp_ne X 94 dX9_passes_80 (by decide) (fun c16 => ?_) (fun c16 => ?_)
              · have h := if_f c16 h
                refine wg_iconst (v := 0) X dX9_passes_94 (by decide) ?_
                exact wg_zret X ⟨(sm_inj h), rfl, rfl⟩ hr (by decide) dX9_passes_95
              · have h := if_t c16 h
                refine wg_goto X 90 dX9_passes_83 (by decide) ?_
                refine wg_iconst (v := 1) X dX9_passes_90 (by decide) ?_
                refine wg_goto X 95 dX9_passes_91 (by decide) ?_
                exact wg_zret X ⟨(sm_inj h), rfl, rfl⟩ hr (by decide) dX9_passes_95
          · have h := if_t c13 h
            refine wg_pick [4] (lv' := [(3, .int p3)]) rfl ?_
            exact J_X9_passes_j64 X hr hS r0 C  M  p3   h
    · have h := if_t c9 h
      refine wg_iload_n X 3 dX9_passes_28 rfl rfl ?_
      refine wg_aload_n X 1 dX9_passes_29 rfl rfl ?_
      refine wg_getR (b := 61) X cl9 (SMi hS 55 9 rfl) 9 (by decide) dX9_passes_30 k_891 rfl (SMr hS 9 61 rfl) ?_
      refine wg_iload_n X 2 dX9_passes_33 rfl rfl ?_
      obtain ⟨z17, h⟩ := ck_some h
      refine wg_mald X (SMi hS 61 11 rfl) (SMl hS 61 8 rfl) z17 dX9_passes_34 ?_
      refine wg_iconst (v := 1) X dX9_passes_35 (by decide) ?_
      refine wg_iadd X dX9_passes_36 ?_
      obtain ⟨z18, h⟩ := ck_some h
      refine wg_irem X dX9_passes_37 z18 ?_
      refine wg_if_ne X 45 dX9_passes_38 (by decide) (fun c19 => ?_) (fun c19 => ?_)
      · have h := if_f c19 h
        refine wg_iconst (v := 0) X dX9_passes_45 (by decide) ?_
        exact wg_zret X ⟨(sm_inj h), rfl, rfl⟩ hr (by decide) dX9_passes_46
      · have h := if_t c19 h
        refine wg_iconst (v := 1) X dX9_passes_41 (by decide) ?_
        refine wg_goto X 46 dX9_passes_42 (by decide) ?_
        exact wg_zret X ⟨(sm_inj h), rfl, rfl⟩ hr (by decide) dX9_passes_46
  · have h := if_t c8 h
    refine wg_iconst (v := 0) X dX9_passes_20 (by decide) ?_
    exact wg_zret X ⟨(sm_inj h), rfl, rfl⟩ hr (by decide) dX9_passes_21
-- WindowsGiveModel.gives(III)I (('c', 55), 'i', 'i', 'i')
def f_X9_gives_j31 (M : wg_M)  (x1 : Int32) (x2 : Int32) (x3 : Int32) : Option Int32 :=
  if x3 = (-1 : Int32) then (
    bd (f_X9_on M x1 x2) fun r13 =>
    some r13)
  else (
    bd (f_X9_passes M x1 x2 x3) fun r10 =>
    if r10 = 0 then (
      some (0 : Int32))
    else (
      some (1 : Int32)))
def f_X9_gives (M : wg_M) (p1 : Int32) (p2 : Int32) (p3 : Int32) : Option Int32 :=
  bd (f_X9_isPane M p1) fun r2 =>
  if r2 = 0 then (
    some (-1000 : Int32))
  else (
    bd (f_X9_isDay p2) fun r5 =>
    if r5 = 0 then (
      some (-1000 : Int32))
    else (
      if p3 = (-1 : Int32) then (
        f_X9_gives_j31 M  p1 p2 p3)
      else (
        bd (f_X9_isSort p3) fun r15 =>
        if r15 = 0 then (
          some (-1000 : Int32))
        else (
          f_X9_gives_j31 M  p1 p2 p3))))
abbrev G_X9_gives (p : Program) (l : Launch) (e : Env) (s : State) (m : MethodId) (args : Array Value) (below : List Frame) (meth : Method) (c : Code) (E : wg_Ev) (ad : Nat → Nat) (S : wg_Sh) (r0 : Int32) (C0 : wg_C) (M0 : wg_M) (pc : Nat) (C : wg_C) (M : wg_M) (lv : List (Nat × Value)) (st : List Value) : Prop := wg_G p l e (wg_Rm 3 69) s m args below meth c (MQ below (wg_Qi E ad S r0 C0 M0) args s 0 0 (wg_A E)) 4 E ad S 0 0 pc C M lv st
set_option maxHeartbeats 4000000 in
set_option maxRecDepth 100000 in
theorem J_X9_gives_j31 {p : Program} {l : Launch} {e : Env} {s : State} {m : MethodId} {args : Array Value} {below : List Frame} {meth : Method} {c : Code} {E : wg_Ev} {ad : Nat → Nat} {S : wg_Sh} (X : wg_X p s m args meth c cX9_gives 4 RX9 E) (hr : meth.sig.returnType = (some .int)) (hS : wg_SM S) (r0 : Int32) (C : wg_C)  (M : wg_M)  (x1 : Int32) (x2 : Int32) (x3 : Int32)   (h : f_X9_gives_j31 M  x1 x2 x3 = some r0) : G_X9_gives p l e s m args below meth c E ad S r0 C M 31 C M [(0, .ref (ad 55)), (1, .int x1), (2, .int x2), (3, .int x3)] [] := by
  unfold f_X9_gives_j31 at h
  refine wg_iload_n X 3 dX9_gives_31 rfl rfl ?_
  refine wg_iconst (v := -1) X dX9_gives_32 (by decide) ?_
  refine wg_icmp_ne X 45 dX9_gives_33 (by decide) (fun c8 => ?_) (fun c8 => ?_)
  · have h := if_f c8 h
    refine wg_aload_n X 0 dX9_gives_45 rfl rfl ?_
    refine wg_iload_n X 1 dX9_gives_46 rfl rfl ?_
    refine wg_iload_n X 2 dX9_gives_47 rfl rfl ?_
    refine wg_iload_n X 3 dX9_gives_48 rfl rfl ?_
    obtain ⟨r10, h9, h⟩ := bd_some h
    refine wg_callVi (As := [.int x1, .int x2, .int x3]) (rest := []) X (c_X9_passes l E ad S hS C M x1 x2 x3  h9) T_yX9_passes k_1066 cl9 (SMi hS 55 9 rfl) dX9_gives_49 rfl rfl (Nat.le_of_ble_eq_true rfl) ⟨Nat.le_of_ble_eq_true rfl, Nat.le_of_ble_eq_true rfl⟩ ⟨Nat.zero_le _, Nat.zero_le _⟩ ?_
    refine wg_if_eq X 59 dX9_gives_52 (by decide) (fun c11 => ?_) (fun c11 => ?_)
    · have h := if_t c11 h
      refine wg_iconst (v := 0) X dX9_gives_59 (by decide) ?_
      exact wg_iret X ⟨(sm_inj h), rfl, rfl⟩ hr dX9_gives_60
    · have h := if_f c11 h
      refine wg_iconst (v := 1) X dX9_gives_55 (by decide) ?_
      refine wg_goto X 60 dX9_gives_56 (by decide) ?_
      exact wg_iret X ⟨(sm_inj h), rfl, rfl⟩ hr dX9_gives_60
  · have h := if_t c8 h
    refine wg_aload_n X 0 dX9_gives_36 rfl rfl ?_
    refine wg_iload_n X 1 dX9_gives_37 rfl rfl ?_
    refine wg_iload_n X 2 dX9_gives_38 rfl rfl ?_
    obtain ⟨r13, h12, h⟩ := bd_some h
    refine wg_callVi (As := [.int x1, .int x2]) (rest := []) X (c_X9_on l E ad S hS C M x1 x2  h12) T_yX9_on k_1062 cl9 (SMi hS 55 9 rfl) dX9_gives_39 rfl rfl (Nat.le_of_ble_eq_true rfl) ⟨Nat.le_of_ble_eq_true rfl, Nat.le_of_ble_eq_true rfl⟩ ⟨Nat.zero_le _, Nat.zero_le _⟩ ?_
    refine wg_goto X 60 dX9_gives_42 (by decide) ?_
    exact wg_iret X ⟨(sm_inj h), rfl, rfl⟩ hr dX9_gives_60
set_option maxHeartbeats 4000000 in
set_option maxRecDepth 100000 in
theorem c_X9_gives (l : Launch) (E : wg_Ev) (ad : Nat → Nat) (S : wg_Sh) (hS : wg_SM S) (C : wg_C) (M : wg_M) (p1 : Int32) (p2 : Int32) (p3 : Int32)  {r0 : Int32} (h : f_X9_gives M p1 p2 p3 = some r0) : wg_Ci l yX9_gives cX9_gives 4 (some .int) 3 69 E ad S C M [.ref (ad 55), .int p1, .int p2, .int p3] r0 C M := by
  refine wg_start (own := RX9) (by decide +kernel) rfl (Nat.le_of_ble_eq_true rfl) ?_
  intro p e s m below meth c X hr hnm
  refine wg_lv (lv' := [(0, .ref (ad 55)), (1, .int p1), (2, .int p2), (3, .int p3)]) rfl ?_
  unfold f_X9_gives at h
  refine wg_aload_n X 0 dX9_gives_0 rfl rfl ?_
  refine wg_iload_n X 1 dX9_gives_1 rfl rfl ?_
  obtain ⟨r2, h1, h⟩ := bd_some h
  refine wg_callVi (As := [.int p1]) (rest := []) X (c_X9_isPane l E ad S hS C M p1  h1) T_yX9_isPane k_1028 cl9 (SMi hS 55 9 rfl) dX9_gives_2 rfl rfl (Nat.le_of_ble_eq_true rfl) ⟨Nat.le_of_ble_eq_true rfl, Nat.le_of_ble_eq_true rfl⟩ ⟨Nat.zero_le _, Nat.zero_le _⟩ ?_
  refine wg_if_eq X 27 dX9_gives_5 (by decide) (fun c3 => ?_) (fun c3 => ?_)
  · have h := if_t c3 h
    refine wg_sipush (v := -1000) X dX9_gives_27 (by decide) ?_
    exact wg_iret X ⟨(sm_inj h), rfl, rfl⟩ hr dX9_gives_30
  · have h := if_f c3 h
    refine wg_iload_n X 2 dX9_gives_8 rfl rfl ?_
    obtain ⟨r5, h4, h⟩ := bd_some h
    refine wg_callSi (As := [.int p2]) (rest := []) X (c_X9_isDay l E ad S C M p2  h4) T_yX9_isDay k_1024 dX9_gives_9 rfl rfl (Nat.le_of_ble_eq_true rfl) ⟨Nat.le_of_ble_eq_true rfl, Nat.le_of_ble_eq_true rfl⟩ ⟨Nat.zero_le _, Nat.zero_le _⟩ ?_
    refine wg_if_eq X 27 dX9_gives_12 (by decide) (fun c6 => ?_) (fun c6 => ?_)
    · have h := if_t c6 h
      refine wg_sipush (v := -1000) X dX9_gives_27 (by decide) ?_
      exact wg_iret X ⟨(sm_inj h), rfl, rfl⟩ hr dX9_gives_30
    · have h := if_f c6 h
      refine wg_iload_n X 3 dX9_gives_15 rfl rfl ?_
      refine wg_iconst (v := -1) X dX9_gives_16 (by decide) ?_
      refine wg_icmp_eq X 31 dX9_gives_17 (by decide) (fun c7 => ?_) (fun c7 => ?_)
      · have h := if_t c7 h
        exact J_X9_gives_j31 X hr hS r0 C  M  p1 p2 p3   h
      · have h := if_f c7 h
        refine wg_iload_n X 3 dX9_gives_20 rfl rfl ?_
        obtain ⟨r15, h14, h⟩ := bd_some h
        refine wg_callSi (As := [.int p3]) (rest := []) X (c_X9_isSort l E ad S C M p3  h14) T_yX9_isSort k_1058 dX9_gives_21 rfl rfl (Nat.le_of_ble_eq_true rfl) ⟨Nat.le_of_ble_eq_true rfl, Nat.le_of_ble_eq_true rfl⟩ ⟨Nat.zero_le _, Nat.zero_le _⟩ ?_
        refine wg_if_ne X 31 dX9_gives_24 (by decide) (fun c16 => ?_) (fun c16 => ?_)
        · have h := if_f c16 h
          exact J_X9_gives_j31 X hr hS r0 C  M  p1 p2 p3   h
        · have h := if_t c16 h
          refine wg_sipush (v := -1000) X dX9_gives_27 (by decide) ?_
          exact wg_iret X ⟨(sm_inj h), rfl, rfl⟩ hr dX9_gives_30
-- WindowsGiveModel.feed(I)I (('c', 55), 'i')
def f_X9_feed (M : wg_M) (p1 : Int32) : Option (Int32 × wg_M) :=
  bd (f_X9_in p1.toInt64 (0 : Int64) (255 : Int64)) fun r2 =>
  if r2 = 0 then (
    some ((-2 : Int32), M))
  else (
    if (M.1 55 6) = (160 : Int32) then (
      some ((-4 : Int32), M))
    else (
      ck (inb (M.1 55 6) 160) <|
      lt_ (wg_sM M 58 (M.1 55 6).toNatClampNeg p1) fun M6 =>
      lt_ (wg_sM M6 55 6 ((M6.1 55 6) + (1 : Int32))) fun M8 =>
      some ((M8.1 55 6), M8)))
set_option maxHeartbeats 4000000 in
set_option maxRecDepth 100000 in
theorem c_X9_feed (l : Launch) (E : wg_Ev) (ad : Nat → Nat) (S : wg_Sh) (hS : wg_SM S) (C : wg_C) (M : wg_M) (p1 : Int32)  {r0 : Int32} {D0 : wg_M} (h : f_X9_feed M p1 = some (r0, D0)) : wg_Ci l yX9_feed cX9_feed 2 (some .int) 1 25 E ad S C M [.ref (ad 55), .int p1] r0 C D0 := by
  refine wg_start (own := RX9) (by decide +kernel) rfl (Nat.le_of_ble_eq_true rfl) ?_
  intro p e s m below meth c X hr hnm
  refine wg_lv (lv' := [(0, .ref (ad 55)), (1, .int p1)]) rfl ?_
  unfold f_X9_feed at h
  refine wg_iload_n X 1 dX9_feed_0 rfl rfl ?_
  refine wg_i2l X dX9_feed_1 ?_
  refine wg_lconst (v := 0) X dX9_feed_2 (by decide) ?_
  refine wg_ldc2 (v := 255) X dX9_feed_3 k_1074 ?_
  obtain ⟨r2, h1, h⟩ := bd_some h
  refine wg_callSi (As := [.long (p1.toInt64), .long (0 : Int64), .long (255 : Int64)]) (rest := []) X (c_X9_in l E ad S C M p1.toInt64 (0 : Int64) (255 : Int64)  h1) T_yX9_in k_1021 dX9_feed_6 rfl rfl (Nat.le_of_ble_eq_true rfl) ⟨Nat.le_of_ble_eq_true rfl, Nat.le_of_ble_eq_true rfl⟩ ⟨Nat.zero_le _, Nat.zero_le _⟩ ?_
  refine wg_if_ne X 15 dX9_feed_9 (by decide) (fun c3 => ?_) (fun c3 => ?_)
  · have h := if_f c3 h
    refine wg_aload_n X 0 dX9_feed_15 rfl rfl ?_
    refine wg_getM X cl9 (SMi hS 55 9 rfl) 6 (by decide) dX9_feed_16 k_888 rfl ?_
    refine wg_sipush (v := 160) X dX9_feed_19 (by decide) ?_
    refine wg_icmp_ne X 28 dX9_feed_22 (by decide) (fun c4 => ?_) (fun c4 => ?_)
    · have h := if_f c4 h
      refine wg_aload_n X 0 dX9_feed_28 rfl rfl ?_
      refine wg_getR (b := 58) X cl9 (SMi hS 55 9 rfl) 5 (by decide) dX9_feed_29 k_887 rfl (SMr hS 5 58 rfl) ?_
      refine wg_aload_n X 0 dX9_feed_32 rfl rfl ?_
      refine wg_getM X cl9 (SMi hS 55 9 rfl) 6 (by decide) dX9_feed_33 k_888 rfl ?_
      refine wg_iload_n X 1 dX9_feed_36 rfl rfl ?_
      obtain ⟨z5, h⟩ := ck_some h
      obtain ⟨M6, e7, h⟩ := lt_some h
      refine wg_maste X (SMi hS 58 11 rfl) (SMl hS 58 160 rfl) z5 dX9_feed_37 e7 ?_
      refine wg_aload_n X 0 dX9_feed_38 rfl rfl ?_
      refine wg_dup X dX9_feed_39 rfl ?_
      refine wg_getM X cl9 (SMi hS 55 9 rfl) 6 (by decide) dX9_feed_40 k_888 rfl ?_
      refine wg_iconst (v := 1) X dX9_feed_43 (by decide) ?_
      refine wg_iadd X dX9_feed_44 ?_
      obtain ⟨M8, e9, h⟩ := lt_some h
      refine wg_putMe X cl9 (SMi hS 55 9 rfl) 6 (by decide) dX9_feed_45 k_888 rfl rfl rfl rfl e9 ?_
      refine wg_aload_n X 0 dX9_feed_48 rfl rfl ?_
      refine wg_getM X cl9 (SMi hS 55 9 rfl) 6 (by decide) dX9_feed_49 k_888 rfl ?_
      exact wg_iret X ⟨(Prod.mk.inj (sm_inj h)).1, rfl, (Prod.mk.inj (sm_inj h)).2⟩ hr dX9_feed_52
    · have h := if_t c4 h
      refine wg_bipush (v := -4) X dX9_feed_25 (by decide) ?_
      exact wg_iret X ⟨(Prod.mk.inj (sm_inj h)).1, rfl, (Prod.mk.inj (sm_inj h)).2⟩ hr dX9_feed_27
  · have h := if_t c3 h
    refine wg_bipush (v := -2) X dX9_feed_12 (by decide) ?_
    exact wg_iret X ⟨(Prod.mk.inj (sm_inj h)).1, rfl, (Prod.mk.inj (sm_inj h)).2⟩ hr dX9_feed_14
-- WindowsGiveModel.byteAt(I)I (('c', 55), 'i')
def f_X9_byteAt (M : wg_M) (p1 : Int32) : Option Int32 :=
  if (M.1 55 22) ≤ p1 then (
    some (-1 : Int32))
  else (
    ck (inb ((M.1 55 21) + p1) 960) <|
    some (M.1 56 ((M.1 55 21) + p1).toNatClampNeg))
set_option maxHeartbeats 4000000 in
set_option maxRecDepth 100000 in
theorem c_X9_byteAt (l : Launch) (E : wg_Ev) (ad : Nat → Nat) (S : wg_Sh) (hS : wg_SM S) (C : wg_C) (M : wg_M) (p1 : Int32)  {r0 : Int32} (h : f_X9_byteAt M p1 = some r0) : wg_Ci l yX9_byteAt cX9_byteAt 2 (some .int) 0 0 E ad S C M [.ref (ad 55), .int p1] r0 C M := by
  refine wg_start (own := RX9) (by decide +kernel) rfl (Nat.le_of_ble_eq_true rfl) ?_
  intro p e s m below meth c X hr hnm
  refine wg_lv (lv' := [(0, .ref (ad 55)), (1, .int p1)]) rfl ?_
  unfold f_X9_byteAt at h
  refine wg_iload_n X 1 dX9_byteAt_0 rfl rfl ?_
  refine wg_aload_n X 0 dX9_byteAt_1 rfl rfl ?_
  refine wg_getM X cl9 (SMi hS 55 9 rfl) 22 (by decide) dX9_byteAt_2 k_904 rfl ?_
  refine wg_icmp_ge X 22 dX9_byteAt_5 (by decide) (fun c1 => ?_) (fun c1 => ?_)
  · have h := if_t c1 h
    refine wg_iconst (v := -1) X dX9_byteAt_22 (by decide) ?_
    exact wg_iret X ⟨(sm_inj h), rfl, rfl⟩ hr dX9_byteAt_23
  · have h := if_f c1 h
    refine wg_aload_n X 0 dX9_byteAt_8 rfl rfl ?_
    refine wg_getR (b := 56) X cl9 (SMi hS 55 9 rfl) 1 (by decide) dX9_byteAt_9 k_883 rfl (SMr hS 1 56 rfl) ?_
    refine wg_aload_n X 0 dX9_byteAt_12 rfl rfl ?_
    refine wg_getM X cl9 (SMi hS 55 9 rfl) 21 (by decide) dX9_byteAt_13 k_903 rfl ?_
    refine wg_iload_n X 1 dX9_byteAt_16 rfl rfl ?_
    refine wg_iadd X dX9_byteAt_17 ?_
    obtain ⟨z2, h⟩ := ck_some h
    refine wg_mald X (SMi hS 56 11 rfl) (SMl hS 56 960 rfl) z2 dX9_byteAt_18 ?_
    refine wg_goto X 23 dX9_byteAt_19 (by decide) ?_
    exact wg_iret X ⟨(sm_inj h), rfl, rfl⟩ hr dX9_byteAt_23
-- WindowsGiveModel.next()V (('c', 55),)
def f_X9_next_j26l0 (N : Nat) (M : wg_M)   : Option ((wg_M) ⊕ (wg_M)) :=
  lt_ (wg_sM M 55 23 ((M.1 55 23) + (1 : Int32))) fun M4 =>
  some (.inl M4)
def f_X9_next_l0 (N : Nat)   (M : wg_M)  : Option ((wg_M) ⊕ (wg_M)) :=
  bd (f_X9_byteAt M (M.1 55 23)) fun r2 =>
  if r2 = (32 : Int32) then (
    f_X9_next_j26l0 N M  )
  else (
    bd (f_X9_byteAt M (M.1 55 23)) fun r7 =>
    if r7 = (10 : Int32) then (
      f_X9_next_j26l0 N M  )
    else (
      some (.inr M)))
def f_X9_next_j300 (N : Nat) (M : wg_M)  (x1 : Int32) : Option wg_M :=
  lt_ (wg_sM M 55 24 (3 : Int32)) fun M28 =>
  lt_ (wg_sJ M28 55 x1.toInt64) fun M30 =>
  lt_ (wg_sM M30 55 23 ((M30.1 55 23) + (1 : Int32))) fun M32 =>
  some M32
def f_X9_next_j216l160 (N : Nat) (M : wg_M)  (x2 : Int32) (s0 : Int64) : Option ((wg_M × Int32) ⊕ (wg_M × Int32)) :=
  lt_ (wg_sJ M 55 s0) fun M51 =>
  lt_ (x2 + (1 : Int32)) fun v53 =>
  lt_ (wg_sM M51 55 23 ((M51.1 55 23) + (1 : Int32))) fun M55 =>
  some (.inl (M55, v53))
def f_X9_next_l160 (N : Nat)   (M : wg_M) (x2 : Int32) : Option ((wg_M × Int32) ⊕ (wg_M × Int32)) :=
  bd (f_X9_byteAt M (M.1 55 23)) fun r46 =>
  bd (f_X9_in r46.toInt64 (48 : Int64) (57 : Int64)) fun r48 =>
  if r48 = 0 then (
    some (.inr (M, x2)))
  else (
    if (4 : Int32) ≤ x2 then (
      f_X9_next_j216l160 N M  x2 (M.2 55))
    else (
      bd (f_X9_byteAt M (M.1 55 23)) fun r58 =>
      f_X9_next_j216l160 N M  x2 ((((10 : Int64) * (M.2 55)) + r58.toInt64) - (48 : Int64))))
def f_X9_next_l100 (N : Nat)   (M : wg_M)  : Option ((wg_M) ⊕ (wg_M)) :=
  bd (f_X9_byteAt M (M.1 55 23)) fun r73 =>
  bd (f_X9_in r73.toInt64 (97 : Int64) (122 : Int64)) fun r75 =>
  if r75 = 0 then (
    some (.inr M))
  else (
    lt_ (wg_sM M 55 23 ((M.1 55 23) + (1 : Int32))) fun M77 =>
    some (.inl M77))
def f_X9_next (N : Nat) (M : wg_M)  : Option wg_M :=
  bd (lp (fun o => f_X9_next_l0 N   o) N M) fun M9 =>
  lt_ (wg_sM M9 55 25 (M9.1 55 23)) fun M14 =>
  bd (f_X9_byteAt M14 (M14.1 55 23)) fun r17 =>
  lt_ (wg_sM M14 55 24 (4 : Int32)) fun M18 =>
  if 0 ≤ r17 then (
    bd (f_X9_in r17.toInt64 (97 : Int64) (122 : Int64)) fun r22 =>
    if r22 = 0 then (
      bd (f_X9_in r17.toInt64 (48 : Int64) (57 : Int64)) fun r25 =>
      if r25 = 0 then (
        if r17 = (40 : Int32) then (
          f_X9_next_j300 N M18  r17)
        else (
          if r17 = (41 : Int32) then (
            f_X9_next_j300 N M18  r17)
          else (
            if r17 = (59 : Int32) then (
              f_X9_next_j300 N M18  r17)
            else (
              if r17 = (43 : Int32) then (
                f_X9_next_j300 N M18  r17)
              else (
                if r17 = (45 : Int32) then (
                  f_X9_next_j300 N M18  r17)
                else (
                  if r17 = (42 : Int32) then (
                    f_X9_next_j300 N M18  r17)
                  else (
                    if r17 = (60 : Int32) then (
                      f_X9_next_j300 N M18  r17)
                    else (
                      if r17 = (61 : Int32) then (
                        f_X9_next_j300 N M18  r17)
                      else (
                        some M18)))))))))
      else (
        lt_ (wg_sM M18 55 24 (2 : Int32)) fun M41 =>
        lt_ (wg_sJ M41 55 (0 : Int64)) fun M43 =>
        bd2 (lp (fun o => f_X9_next_l160 N   o.1 o.2) N (M43, (0 : Int32))) fun M59 v60 =>
        if v60 ≤ (4 : Int32) then (
          lt_ (wg_sM M59 55 24 (2 : Int32)) fun M66 =>
          some M66)
        else (
          lt_ (wg_sM M59 55 24 (4 : Int32)) fun M68 =>
          some M68)))
    else (
      lt_ (wg_sM M18 55 24 (1 : Int32)) fun M70 =>
      bd (lp (fun o => f_X9_next_l100 N   o) N M70) fun M79 =>
      some M79))
  else (
    lt_ (wg_sM M18 55 24 (0 : Int32)) fun M84 =>
    lt_ (wg_sM M84 55 25 (M84.1 55 22)) fun M86 =>
    some M86)
abbrev G_X9_next (p : Program) (l : Launch) (e : Env) (s : State) (m : MethodId) (args : Array Value) (below : List Frame) (meth : Method) (c : Code) (E : wg_Ev) (ad : Nat → Nat) (S : wg_Sh) (C0 : wg_C) (M0 : wg_M) (pc : Nat) (C : wg_C) (M : wg_M) (lv : List (Nat × Value)) (st : List Value) : Prop := wg_G p l e (wg_Rm 1 25) s m args below meth c (MQ below (wg_Qv E ad S C0 M0) args s 0 0 (wg_A E)) 3 E ad S 0 0 pc C M lv st
set_option maxHeartbeats 4000000 in
set_option maxRecDepth 100000 in
theorem J_X9_next_j26l0 {p : Program} {l : Launch} {e : Env} {s : State} {m : MethodId} {args : Array Value} {below : List Frame} {meth : Method} {c : Code} {E : wg_Ev} {ad : Nat → Nat} {S : wg_Sh} (X : wg_X p s m args meth c cX9_next 3 RX9 E) (hr : meth.sig.returnType = none) (hS : wg_SM S) (D0 : wg_M) (C : wg_C) (N : Nat)  (M : wg_M)    (y : ((wg_M) ⊕ (wg_M))) (Kc : ∀ (Dy : wg_M), y = Sum.inl Dy → G_X9_next p l e s m args below meth c E ad S C D0 0 C Dy [(0, .ref (ad 55))] []) (Ke : ∀ (Dy : wg_M), y = Sum.inr (Dy) → G_X9_next p l e s m args below meth c E ad S C D0 39 C Dy [(0, .ref (ad 55))] []) (h : f_X9_next_j26l0 N M   = some y) : G_X9_next p l e s m args below meth c E ad S C D0 26 C M [(0, .ref (ad 55))] [] := by
  unfold f_X9_next_j26l0 at h
  refine wg_aload_n X 0 dX9_next_26 rfl rfl ?_
  refine wg_dup X dX9_next_27 rfl ?_
  refine wg_getM X cl9 (SMi hS 55 9 rfl) 23 (by decide) dX9_next_28 k_905 rfl ?_
  refine wg_iconst (v := 1) X dX9_next_31 (by decide) ?_
  refine wg_iadd X dX9_next_32 ?_
  obtain ⟨M4, e5, h⟩ := lt_some h
  refine wg_putMe X cl9 (SMi hS 55 9 rfl) 23 (by decide) dX9_next_33 k_905 rfl rfl rfl rfl e5 ?_
  refine wg_goto X 0 dX9_next_36 (by decide) ?_
  exact Kc M4 (sm_inj h).symm
set_option maxHeartbeats 4000000 in
set_option maxRecDepth 100000 in
theorem L_X9_next_l0 {p : Program} {l : Launch} {e : Env} {s : State} {m : MethodId} {args : Array Value} {below : List Frame} {meth : Method} {c : Code} {E : wg_Ev} {ad : Nat → Nat} {S : wg_Sh} (X : wg_X p s m args meth c cX9_next 3 RX9 E) (hr : meth.sig.returnType = none) (hS : wg_SM S) (D0 : wg_M) (C : wg_C) (N : Nat)     : ∀ (n : Nat) (M : wg_M) (o : (wg_M)), lp (fun o => f_X9_next_l0 N   o) n M = some o → (∀ (Dy : wg_M), o = Dy → G_X9_next p l e s m args below meth c E ad S C D0 39 C Dy [(0, .ref (ad 55))] []) → G_X9_next p l e s m args below meth c E ad S C D0 0 C M [(0, .ref (ad 55))] [] := by
  intro n
  induction n with
  | zero => exact fun _ o h => (lp_zero h).elim
  | succ n ih =>
    intro M o h K
    obtain ⟨o1, hb, h2⟩ := lp_some h
    replace hb : f_X9_next_l0 N   M = some o1 := hb
    clear h
    have Kc : ∀ (Dy : wg_M), o1 = Sum.inl Dy → G_X9_next p l e s m args below meth c E ad S C D0 0 C Dy [(0, .ref (ad 55))] [] := fun Dy e1 => by
      subst e1
      exact ih Dy o h2 K
    have Ke : ∀ (Dy : wg_M), o1 = Sum.inr (Dy) → G_X9_next p l e s m args below meth c E ad S C D0 39 C Dy [(0, .ref (ad 55))] [] := fun Dy e1 => by
      subst e1
      exact K Dy (sm_inj (α := (wg_M)) h2).symm
    clear ih K h2
    unfold f_X9_next_l0 at hb
    have h := hb
    clear hb
    refine wg_aload_n X 0 dX9_next_0 rfl rfl ?_
    refine wg_aload_n X 0 dX9_next_1 rfl rfl ?_
    refine wg_getM X cl9 (SMi hS 55 9 rfl) 23 (by decide) dX9_next_2 k_905 rfl ?_
    obtain ⟨r2, h1, h⟩ := bd_some h
    refine wg_callVi (As := [.int (M.1 55 23)]) (rest := []) X (c_X9_byteAt l E ad S hS C M (M.1 55 23)  h1) T_yX9_byteAt k_1087 cl9 (SMi hS 55 9 rfl) dX9_next_5 rfl rfl (Nat.le_of_ble_eq_true rfl) ⟨Nat.le_of_ble_eq_true rfl, Nat.le_of_ble_eq_true rfl⟩ ⟨Nat.zero_le _, Nat.zero_le _⟩ ?_
    refine wg_bipush (v := 32) X dX9_next_8 (by decide) ?_
    refine wg_icmp_eq X 26 dX9_next_10 (by decide) (fun c3 => ?_) (fun c3 => ?_)
    · have h := if_t c3 h
      exact J_X9_next_j26l0 X hr hS D0 C N  M    _ Kc Ke h
    · have h := if_f c3 h
      refine wg_aload_n X 0 dX9_next_13 rfl rfl ?_
      refine wg_aload_n X 0 dX9_next_14 rfl rfl ?_
      refine wg_getM X cl9 (SMi hS 55 9 rfl) 23 (by decide) dX9_next_15 k_905 rfl ?_
      obtain ⟨r7, h6, h⟩ := bd_some h
      refine wg_callVi (As := [.int (M.1 55 23)]) (rest := []) X (c_X9_byteAt l E ad S hS C M (M.1 55 23)  h6) T_yX9_byteAt k_1087 cl9 (SMi hS 55 9 rfl) dX9_next_18 rfl rfl (Nat.le_of_ble_eq_true rfl) ⟨Nat.le_of_ble_eq_true rfl, Nat.le_of_ble_eq_true rfl⟩ ⟨Nat.zero_le _, Nat.zero_le _⟩ ?_
      refine wg_bipush (v := 10) X dX9_next_21 (by decide) ?_
      refine wg_icmp_ne X 39 dX9_next_23 (by decide) (fun c8 => ?_) (fun c8 => ?_)
      · have h := if_f c8 h
        exact Ke M (sm_inj h).symm
      · have h := if_t c8 h
        exact J_X9_next_j26l0 X hr hS D0 C N  M    _ Kc Ke h
set_option maxHeartbeats 4000000 in
set_option maxRecDepth 100000 in
theorem J_X9_next_j300 {p : Program} {l : Launch} {e : Env} {s : State} {m : MethodId} {args : Array Value} {below : List Frame} {meth : Method} {c : Code} {E : wg_Ev} {ad : Nat → Nat} {S : wg_Sh} (X : wg_X p s m args meth c cX9_next 3 RX9 E) (hr : meth.sig.returnType = none) (hS : wg_SM S) (D0 : wg_M) (C : wg_C) (N : Nat)  (M : wg_M)  (x1 : Int32)   (h : f_X9_next_j300 N M  x1 = some D0) : G_X9_next p l e s m args below meth c E ad S C D0 300 C M [(0, .ref (ad 55)), (1, .int x1)] [] := by
  unfold f_X9_next_j300 at h
  refine wg_aload_n X 0 dX9_next_300 rfl rfl ?_
  refine wg_iconst (v := 3) X dX9_next_301 (by decide) ?_
  obtain ⟨M28, e29, h⟩ := lt_some h
  refine wg_putMe X cl9 (SMi hS 55 9 rfl) 24 (by decide) dX9_next_302 k_906 rfl rfl rfl rfl e29 ?_
  refine wg_aload_n X 0 dX9_next_305 rfl rfl ?_
  refine wg_iload_n X 1 dX9_next_306 rfl rfl ?_
  refine wg_i2l X dX9_next_307 ?_
  obtain ⟨M30, e31, h⟩ := lt_some h
  refine wg_putJe X cl9 (SMi hS 55 9 rfl) 26 (by decide) dX9_next_308 k_908 rfl rfl wg_Jonly rfl rfl e31 ?_
  refine wg_aload_n X 0 dX9_next_311 rfl rfl ?_
  refine wg_dup X dX9_next_312 rfl ?_
  refine wg_getM X cl9 (SMi hS 55 9 rfl) 23 (by decide) dX9_next_313 k_905 rfl ?_
  refine wg_iconst (v := 1) X dX9_next_316 (by decide) ?_
  refine wg_iadd X dX9_next_317 ?_
  obtain ⟨M32, e33, h⟩ := lt_some h
  refine wg_putMe X cl9 (SMi hS 55 9 rfl) 23 (by decide) dX9_next_318 k_905 rfl rfl rfl rfl e33 ?_
  exact wg_vret X ⟨rfl, (sm_inj h)⟩ hr dX9_next_321
set_option maxHeartbeats 4000000 in
set_option maxRecDepth 100000 in
theorem J_X9_next_j216l160 {p : Program} {l : Launch} {e : Env} {s : State} {m : MethodId} {args : Array Value} {below : List Frame} {meth : Method} {c : Code} {E : wg_Ev} {ad : Nat → Nat} {S : wg_Sh} (X : wg_X p s m args meth c cX9_next 3 RX9 E) (hr : meth.sig.returnType = none) (hS : wg_SM S) (D0 : wg_M) (C : wg_C) (N : Nat)  (M : wg_M)  (x2 : Int32) (s0 : Int64)  (y : ((wg_M × Int32) ⊕ (wg_M × Int32))) (Kc : ∀ (Dy : wg_M) (y2 : Int32), y = Sum.inl (Dy, y2) → G_X9_next p l e s m args below meth c E ad S C D0 160 C Dy [(0, .ref (ad 55)), (2, .int y2)] []) (Ke : ∀ (Dy : wg_M) (y2 : Int32), y = Sum.inr ((Dy, y2)) → G_X9_next p l e s m args below meth c E ad S C D0 235 C Dy [(0, .ref (ad 55)), (2, .int y2)] []) (h : f_X9_next_j216l160 N M  x2 s0 = some y) : G_X9_next p l e s m args below meth c E ad S C D0 216 C M [(0, .ref (ad 55)), (2, .int x2)] [.long s0, .ref (ad 55)] := by
  unfold f_X9_next_j216l160 at h
  obtain ⟨M51, e52, h⟩ := lt_some h
  refine wg_putJe X cl9 (SMi hS 55 9 rfl) 26 (by decide) dX9_next_216 k_908 rfl rfl wg_Jonly rfl rfl e52 ?_
  obtain ⟨v53, e54, h⟩ := lt_some h
  refine wg_iinc (lv' := [(2, .int v53), (0, .ref (ad 55))]) X 1 dX9_next_219 rfl e54 (by decide) rfl ?_
  refine wg_aload_n X 1 dX9_next_222 rfl rfl ?_
  refine wg_dup X dX9_next_223 rfl ?_
  refine wg_getM X cl9 (SMi hS 55 9 rfl) 23 (by decide) dX9_next_224 k_905 rfl ?_
  refine wg_iconst (v := 1) X dX9_next_227 (by decide) ?_
  refine wg_iadd X dX9_next_228 ?_
  obtain ⟨M55, e56, h⟩ := lt_some h
  refine wg_putMe X cl9 (SMi hS 55 9 rfl) 23 (by decide) dX9_next_229 k_905 rfl rfl rfl rfl e56 ?_
  refine wg_goto X 160 dX9_next_232 (by decide) ?_
  refine wg_pick [1, 0] (lv' := [(0, .ref (ad 55)), (2, .int v53)]) rfl ?_
  exact Kc M55 v53 (sm_inj h).symm
set_option maxHeartbeats 4000000 in
set_option maxRecDepth 100000 in
theorem L_X9_next_l160 {p : Program} {l : Launch} {e : Env} {s : State} {m : MethodId} {args : Array Value} {below : List Frame} {meth : Method} {c : Code} {E : wg_Ev} {ad : Nat → Nat} {S : wg_Sh} (X : wg_X p s m args meth c cX9_next 3 RX9 E) (hr : meth.sig.returnType = none) (hS : wg_SM S) (D0 : wg_M) (C : wg_C) (N : Nat)     : ∀ (n : Nat) (M : wg_M) (x2 : Int32) (o : (wg_M × Int32)), lp (fun o => f_X9_next_l160 N   o.1 o.2) n (M, x2) = some o → (∀ (Dy : wg_M) (y2 : Int32), o = (Dy, y2) → G_X9_next p l e s m args below meth c E ad S C D0 235 C Dy [(0, .ref (ad 55)), (2, .int y2)] []) → G_X9_next p l e s m args below meth c E ad S C D0 160 C M [(0, .ref (ad 55)), (2, .int x2)] [] := by
  intro n
  induction n with
  | zero => exact fun _ _ o h => (lp_zero h).elim
  | succ n ih =>
    intro M x2 o h K
    obtain ⟨o1, hb, h2⟩ := lp_some h
    replace hb : f_X9_next_l160 N   M x2 = some o1 := hb
    clear h
    have Kc : ∀ (Dy : wg_M) (y2 : Int32), o1 = Sum.inl (Dy, y2) → G_X9_next p l e s m args below meth c E ad S C D0 160 C Dy [(0, .ref (ad 55)), (2, .int y2)] [] := fun Dy y2 e1 => by
      subst e1
      exact ih Dy y2 o h2 K
    have Ke : ∀ (Dy : wg_M) (y2 : Int32), o1 = Sum.inr ((Dy, y2)) → G_X9_next p l e s m args below meth c E ad S C D0 235 C Dy [(0, .ref (ad 55)), (2, .int y2)] [] := fun Dy y2 e1 => by
      subst e1
      exact K Dy y2 (sm_inj (α := (wg_M × Int32)) h2).symm
    clear ih K h2
    unfold f_X9_next_l160 at hb
    have h := hb
    clear hb
    refine wg_aload_n X 0 dX9_next_160 rfl rfl ?_
    refine wg_aload_n X 0 dX9_next_161 rfl rfl ?_
    refine wg_getM X cl9 (SMi hS 55 9 rfl) 23 (by decide) dX9_next_162 k_905 rfl ?_
    obtain ⟨r46, h45, h⟩ := bd_some h
    refine wg_callVi (As := [.int (M.1 55 23)]) (rest := []) X (c_X9_byteAt l E ad S hS C M (M.1 55 23)  h45) T_yX9_byteAt k_1087 cl9 (SMi hS 55 9 rfl) dX9_next_165 rfl rfl (Nat.le_of_ble_eq_true rfl) ⟨Nat.le_of_ble_eq_true rfl, Nat.le_of_ble_eq_true rfl⟩ ⟨Nat.zero_le _, Nat.zero_le _⟩ ?_
    refine wg_i2l X dX9_next_168 ?_
    refine wg_ldc2 (v := 48) X dX9_next_169 k_1093 ?_
    refine wg_ldc2 (v := 57) X dX9_next_172 k_1094 ?_
    obtain ⟨r48, h47, h⟩ := bd_some h
    refine wg_callSi (As := [.long (r46.toInt64), .long (48 : Int64), .long (57 : Int64)]) (rest := []) X (c_X9_in l E ad S C M r46.toInt64 (48 : Int64) (57 : Int64)  h47) T_yX9_in k_1021 dX9_next_175 rfl rfl (Nat.le_of_ble_eq_true rfl) ⟨Nat.le_of_ble_eq_true rfl, Nat.le_of_ble_eq_true rfl⟩ ⟨Nat.zero_le _, Nat.zero_le _⟩ ?_
    refine wg_if_eq X 235 dX9_next_178 (by decide) (fun c49 => ?_) (fun c49 => ?_)
    · have h := if_t c49 h
      exact Ke M x2 (sm_inj h).symm
    · have h := if_f c49 h
      refine wg_aload_n X 0 dX9_next_181 rfl rfl ?_
      refine wg_iload_n X 1 dX9_next_182 rfl rfl ?_
      refine wg_iconst (v := 4) X dX9_next_183 (by decide) ?_
      refine wg_icmp_ge X 212 dX9_next_184 (by decide) (fun c50 => ?_) (fun c50 => ?_)
      · have h := if_t c50 h
        refine wg_aload_n X 0 dX9_next_212 rfl rfl ?_
        refine wg_getJ X cl9 (SMi hS 55 9 rfl) 26 (by decide) dX9_next_213 k_908 rfl ?_
        exact J_X9_next_j216l160 X hr hS D0 C N  M  x2 (M.2 55)  _ Kc Ke h
      · have h := if_f c50 h
        refine wg_ldc2 (v := 10) X dX9_next_187 k_1095 ?_
        refine wg_aload_n X 0 dX9_next_190 rfl rfl ?_
        refine wg_getJ X cl9 (SMi hS 55 9 rfl) 26 (by decide) dX9_next_191 k_908 rfl ?_
        refine wg_lmul X dX9_next_194 ?_
        refine wg_aload_n X 0 dX9_next_195 rfl rfl ?_
        refine wg_aload_n X 0 dX9_next_196 rfl rfl ?_
        refine wg_getM X cl9 (SMi hS 55 9 rfl) 23 (by decide) dX9_next_197 k_905 rfl ?_
        obtain ⟨r58, h57, h⟩ := bd_some h
        refine wg_callVi (As := [.int (M.1 55 23)]) (rest := [.long ((10 : Int64) * (M.2 55)), .ref (ad 55)]) X (c_X9_byteAt l E ad S hS C M (M.1 55 23)  h57) T_yX9_byteAt k_1087 cl9 (SMi hS 55 9 rfl) dX9_next_200 rfl rfl (Nat.le_of_ble_eq_true rfl) ⟨Nat.le_of_ble_eq_true rfl, Nat.le_of_ble_eq_true rfl⟩ ⟨Nat.zero_le _, Nat.zero_le _⟩ ?_
        refine wg_i2l X dX9_next_203 ?_
        refine wg_ladd X dX9_next_204 ?_
        refine wg_ldc2 (v := 48) X dX9_next_205 k_1093 ?_
        refine wg_lsub X dX9_next_208 ?_
        refine wg_goto X 216 dX9_next_209 (by decide) ?_
        exact J_X9_next_j216l160 X hr hS D0 C N  M  x2 ((((10 : Int64) * (M.2 55)) + r58.toInt64) - (48 : Int64))  _ Kc Ke h
set_option maxHeartbeats 4000000 in
set_option maxRecDepth 100000 in
theorem L_X9_next_l100 {p : Program} {l : Launch} {e : Env} {s : State} {m : MethodId} {args : Array Value} {below : List Frame} {meth : Method} {c : Code} {E : wg_Ev} {ad : Nat → Nat} {S : wg_Sh} (X : wg_X p s m args meth c cX9_next 3 RX9 E) (hr : meth.sig.returnType = none) (hS : wg_SM S) (D0 : wg_M) (C : wg_C) (N : Nat)     : ∀ (n : Nat) (M : wg_M) (o : (wg_M)), lp (fun o => f_X9_next_l100 N   o) n M = some o → (∀ (Dy : wg_M), o = Dy → G_X9_next p l e s m args below meth c E ad S C D0 321 C Dy [(0, .ref (ad 55))] []) → G_X9_next p l e s m args below meth c E ad S C D0 100 C M [(0, .ref (ad 55))] [] := by
  intro n
  induction n with
  | zero => exact fun _ o h => (lp_zero h).elim
  | succ n ih =>
    intro M o h K
    obtain ⟨o1, hb, h2⟩ := lp_some h
    replace hb : f_X9_next_l100 N   M = some o1 := hb
    clear h
    have Kc : ∀ (Dy : wg_M), o1 = Sum.inl Dy → G_X9_next p l e s m args below meth c E ad S C D0 100 C Dy [(0, .ref (ad 55))] [] := fun Dy e1 => by
      subst e1
      exact ih Dy o h2 K
    have Ke : ∀ (Dy : wg_M), o1 = Sum.inr (Dy) → G_X9_next p l e s m args below meth c E ad S C D0 321 C Dy [(0, .ref (ad 55))] [] := fun Dy e1 => by
      subst e1
      exact K Dy (sm_inj (α := (wg_M)) h2).symm
    clear ih K h2
    unfold f_X9_next_l100 at hb
    have h := hb
    clear hb
    refine wg_aload_n X 0 dX9_next_100 rfl rfl ?_
    refine wg_aload_n X 0 dX9_next_101 rfl rfl ?_
    refine wg_getM X cl9 (SMi hS 55 9 rfl) 23 (by decide) dX9_next_102 k_905 rfl ?_
    obtain ⟨r73, h72, h⟩ := bd_some h
    refine wg_callVi (As := [.int (M.1 55 23)]) (rest := []) X (c_X9_byteAt l E ad S hS C M (M.1 55 23)  h72) T_yX9_byteAt k_1087 cl9 (SMi hS 55 9 rfl) dX9_next_105 rfl rfl (Nat.le_of_ble_eq_true rfl) ⟨Nat.le_of_ble_eq_true rfl, Nat.le_of_ble_eq_true rfl⟩ ⟨Nat.zero_le _, Nat.zero_le _⟩ ?_
    refine wg_i2l X dX9_next_108 ?_
    refine wg_ldc2 (v := 97) X dX9_next_109 k_1091 ?_
    refine wg_ldc2 (v := 122) X dX9_next_112 k_1092 ?_
    obtain ⟨r75, h74, h⟩ := bd_some h
    refine wg_callSi (As := [.long (r73.toInt64), .long (97 : Int64), .long (122 : Int64)]) (rest := []) X (c_X9_in l E ad S C M r73.toInt64 (97 : Int64) (122 : Int64)  h74) T_yX9_in k_1021 dX9_next_115 rfl rfl (Nat.le_of_ble_eq_true rfl) ⟨Nat.le_of_ble_eq_true rfl, Nat.le_of_ble_eq_true rfl⟩ ⟨Nat.zero_le _, Nat.zero_le _⟩ ?_
    refine wg_if_eq X 321 dX9_next_118 (by decide) (fun c76 => ?_) (fun c76 => ?_)
    · have h := if_t c76 h
      exact Ke M (sm_inj h).symm
    · have h := if_f c76 h
      refine wg_aload_n X 0 dX9_next_121 rfl rfl ?_
      refine wg_dup X dX9_next_122 rfl ?_
      refine wg_getM X cl9 (SMi hS 55 9 rfl) 23 (by decide) dX9_next_123 k_905 rfl ?_
      refine wg_iconst (v := 1) X dX9_next_126 (by decide) ?_
      refine wg_iadd X dX9_next_127 ?_
      obtain ⟨M77, e78, h⟩ := lt_some h
      refine wg_putMe X cl9 (SMi hS 55 9 rfl) 23 (by decide) dX9_next_128 k_905 rfl rfl rfl rfl e78 ?_
      refine wg_goto X 100 dX9_next_131 (by decide) ?_
      exact Kc M77 (sm_inj h).symm
set_option maxHeartbeats 4000000 in
set_option maxRecDepth 100000 in
theorem c_X9_next (l : Launch) (E : wg_Ev) (ad : Nat → Nat) (S : wg_Sh) (hS : wg_SM S) (N : Nat) (C : wg_C) (M : wg_M)   {D0 : wg_M} (h : f_X9_next N M  = some D0) : wg_Cv l yX9_next cX9_next 3 none 1 25 E ad S C M [.ref (ad 55)] C D0 := by
  refine wg_start (own := RX9) (by decide +kernel) rfl (Nat.le_of_ble_eq_true rfl) ?_
  intro p e s m below meth c X hr hnm
  refine wg_lv (lv' := [(0, .ref (ad 55))]) rfl ?_
  unfold f_X9_next at h
  obtain ⟨o10, h11, h⟩ := bd_o h
  refine L_X9_next_l0 X hr hS D0 C N     N M o10 h11 (fun M9 e13 => ?_)
  · subst o10
    replace h := bd_in h
    refine wg_aload_n X 0 dX9_next_39 rfl rfl ?_
    refine wg_aload_n X 0 dX9_next_40 rfl rfl ?_
    refine wg_getM X cl9 (SMi hS 55 9 rfl) 23 (by decide) dX9_next_41 k_905 rfl ?_
    obtain ⟨M14, e15, h⟩ := lt_some h
    refine wg_putMe X cl9 (SMi hS 55 9 rfl) 25 (by decide) dX9_next_44 k_907 rfl rfl rfl rfl e15 ?_
    refine wg_aload_n X 0 dX9_next_47 rfl rfl ?_
    refine wg_aload_n X 0 dX9_next_48 rfl rfl ?_
    refine wg_getM X cl9 (SMi hS 55 9 rfl) 23 (by decide) dX9_next_49 k_905 rfl ?_
    obtain ⟨r17, h16, h⟩ := bd_some h
    refine wg_callVi (As := [.int (M14.1 55 23)]) (rest := []) X (c_X9_byteAt l E ad S hS C M14 (M14.1 55 23)  h16) T_yX9_byteAt k_1087 cl9 (SMi hS 55 9 rfl) dX9_next_52 rfl rfl (Nat.le_of_ble_eq_true rfl) ⟨Nat.le_of_ble_eq_true rfl, Nat.le_of_ble_eq_true rfl⟩ ⟨Nat.zero_le _, Nat.zero_le _⟩ ?_
    refine wg_istore_n (lv' := [(1, .int r17), (0, .ref (ad 55))]) X dX9_next_55 rfl rfl (by decide) rfl ?_
    refine wg_aload_n X 1 dX9_next_56 rfl rfl ?_
    refine wg_iconst (v := 4) X dX9_next_57 (by decide) ?_
    obtain ⟨M18, e19, h⟩ := lt_some h
    refine wg_putMe X cl9 (SMi hS 55 9 rfl) 24 (by decide) dX9_next_58 k_906 rfl rfl rfl rfl e19 ?_
    refine wg_iload_n X 0 dX9_next_61 rfl rfl ?_
    refine wg_if_ge X 81 dX9_next_62 (by decide) (fun c20 => ?_) (fun c20 => ?_)
    · have h := if_t c20 h
      refine wg_iload_n X 0 dX9_next_81 rfl rfl ?_
      refine wg_i2l X dX9_next_82 ?_
      refine wg_ldc2 (v := 97) X dX9_next_83 k_1091 ?_
      refine wg_ldc2 (v := 122) X dX9_next_86 k_1092 ?_
      obtain ⟨r22, h21, h⟩ := bd_some h
      refine wg_callSi (As := [.long (r17.toInt64), .long (97 : Int64), .long (122 : Int64)]) (rest := []) X (c_X9_in l E ad S C M18 r17.toInt64 (97 : Int64) (122 : Int64)  h21) T_yX9_in k_1021 dX9_next_89 rfl rfl (Nat.le_of_ble_eq_true rfl) ⟨Nat.le_of_ble_eq_true rfl, Nat.le_of_ble_eq_true rfl⟩ ⟨Nat.zero_le _, Nat.zero_le _⟩ ?_
      refine wg_if_eq X 134 dX9_next_92 (by decide) (fun c23 => ?_) (fun c23 => ?_)
      · have h := if_t c23 h
        refine wg_iload_n X 0 dX9_next_134 rfl rfl ?_
        refine wg_i2l X dX9_next_135 ?_
        refine wg_ldc2 (v := 48) X dX9_next_136 k_1093 ?_
        refine wg_ldc2 (v := 57) X dX9_next_139 k_1094 ?_
        obtain ⟨r25, h24, h⟩ := bd_some h
        refine wg_callSi (As := [.long (r17.toInt64), .long (48 : Int64), .long (57 : Int64)]) (rest := []) X (c_X9_in l E ad S C M18 r17.toInt64 (48 : Int64) (57 : Int64)  h24) T_yX9_in k_1021 dX9_next_142 rfl rfl (Nat.le_of_ble_eq_true rfl) ⟨Nat.le_of_ble_eq_true rfl, Nat.le_of_ble_eq_true rfl⟩ ⟨Nat.zero_le _, Nat.zero_le _⟩ ?_
        refine wg_if_eq X 252 dX9_next_145 (by decide) (fun c26 => ?_) (fun c26 => ?_)
        · have h := if_t c26 h
          refine wg_iload_n X 0 dX9_next_252 rfl rfl ?_
          refine wg_bipush (v := 40) X dX9_next_253 (by decide) ?_
          refine wg_icmp_eq X 300 dX9_next_255 (by decide) (fun c27 => ?_) (fun c27 => ?_)
          · have h := if_t c27 h
            refine wg_pick [1, 0] (lv' := [(0, .ref (ad 55)), (1, .int r17)]) rfl ?_
            exact J_X9_next_j300 X hr hS D0 C N  M18  r17   h
          · have h := if_f c27 h
            refine wg_iload_n X 0 dX9_next_258 rfl rfl ?_
            refine wg_bipush (v := 41) X dX9_next_259 (by decide) ?_
            refine wg_icmp_eq X 300 dX9_next_261 (by decide) (fun c34 => ?_) (fun c34 => ?_)
            · have h := if_t c34 h
              refine wg_pick [1, 0] (lv' := [(0, .ref (ad 55)), (1, .int r17)]) rfl ?_
              exact J_X9_next_j300 X hr hS D0 C N  M18  r17   h
            · have h := if_f c34 h
              refine wg_iload_n X 0 dX9_next_264 rfl rfl ?_
              refine wg_bipush (v := 59) X dX9_next_265 (by decide) ?_
              refine wg_icmp_eq X 300 dX9_next_267 (by decide) (fun c35 => ?_) (fun c35 => ?_)
              · have h := if_t c35 h
                refine wg_pick [1, 0] (lv' := [(0, .ref (ad 55)), (1, .int r17)]) rfl ?_
                exact J_X9_next_j300 X hr hS D0 C N  M18  r17   h
              · have h := if_f c35 h
                refine wg_iload_n X 0 dX9_next_270 rfl rfl ?_
                refine wg_bipush (v := 43) X dX9_next_271 (by decide) ?_
                refine wg_icmp_eq X 300 dX9_next_273 (by decide) (fun c36 => ?_) (fun c36 => ?_)
                · have h := if_t c36 h
                  refine wg_pick [1, 0] (lv' := [(0, .ref (ad 55)), (1, .int r17)]) rfl ?_
                  exact J_X9_next_j300 X hr hS D0 C N  M18  r17   h
                · have h := if_f c36 h
                  refine wg_iload_n X 0 dX9_next_276 rfl rfl ?_
                  refine wg_bipush (v := 45) X dX9_next_277 (by decide) ?_
                  refine wg_icmp_eq X 300 dX9_next_279 (by decide) (fun c37 => ?_) (fun c37 => ?_)
                  · have h := if_t c37 h
                    refine wg_pick [1, 0] (lv' := [(0, .ref (ad 55)), (1, .int r17)]) rfl ?_
                    exact J_X9_next_j300 X hr hS D0 C N  M18  r17   h
                  · have h := if_f c37 h
                    refine wg_iload_n X 0 dX9_next_282 rfl rfl ?_
                    refine wg_bipush (v := 42) X dX9_next_283 (by decide) ?_
                    refine wg_icmp_eq X 300 dX9_next_285 (by decide) (fun c38 => ?_) (fun c38 => ?_)
                    · have h := if_t c38 h
                      refine wg_pick [1, 0] (lv' := [(0, .ref (ad 55)), (1, .int r17)]) rfl ?_
                      exact J_X9_next_j300 X hr hS D0 C N  M18  r17   h
                    · have h := if_f c38 h
                      refine wg_iload_n X 0 dX9_next_288 rfl rfl ?_
                      refine wg_bipush (v := 60) X dX9_next_289 (by decide) ?_
                      refine wg_icmp_eq X 300 dX9_next_291 (by decide) (fun c39 => ?_) (fun c39 => ?_)
                      · have h := if_t c39 h
                        refine wg_pick [1, 0] (lv' := [(0, .ref (ad 55)), (1, .int r17)]) rfl ?_
                        exact J_X9_next_j300 X hr hS D0 C N  M18  r17   h
                      · have h := if_f c39 h
                        refine wg_iload_n X 0 dX9_next_294 rfl rfl ?_
                        refine wg_bipush (v := 61) X dX9_next_295 (by decide) ?_
                        refine wg_icmp_ne X 321 dX9_next_297 (by decide) (fun c40 => ?_) (fun c40 => ?_)
                        · have h := if_f c40 h
                          exact wg_vret X ⟨rfl, (sm_inj h)⟩ hr dX9_next_321
                        · have h := if_t c40 h
                          refine wg_pick [1, 0] (lv' := [(0, .ref (ad 55)), (1, .int r17)]) rfl ?_
                          exact J_X9_next_j300 X hr hS D0 C N  M18  r17   h
        · have h := if_f c26 h
          refine wg_aload_n X 1 dX9_next_148 rfl rfl ?_
          refine wg_iconst (v := 2) X dX9_next_149 (by decide) ?_
          obtain ⟨M41, e42, h⟩ := lt_some h
          refine wg_putMe X cl9 (SMi hS 55 9 rfl) 24 (by decide) dX9_next_150 k_906 rfl rfl rfl rfl e42 ?_
          refine wg_aload_n X 1 dX9_next_153 rfl rfl ?_
          refine wg_lconst (v := 0) X dX9_next_154 (by decide) ?_
          obtain ⟨M43, e44, h⟩ := lt_some h
          refine wg_putJe X cl9 (SMi hS 55 9 rfl) 26 (by decide) dX9_next_155 k_908 rfl rfl wg_Jonly rfl rfl e44 ?_
          refine wg_iconst (v := 0) X dX9_next_158 (by decide) ?_
          refine wg_istore_n (lv' := [(2, .int (0 : Int32)), (1, .int r17), (0, .ref (ad 55))]) X dX9_next_159 rfl rfl (by decide) rfl ?_
          obtain ⟨o61, h62, h⟩ := bd2_o h
          refine wg_pick [2, 0] (lv' := [(0, .ref (ad 55)), (2, .int (0 : Int32))]) rfl ?_
          refine L_X9_next_l160 X hr hS D0 C N     N M43 (0 : Int32) o61 h62 (fun M59 v60 e64 => ?_)
          · subst o61
            replace h := bd2_in h
            refine wg_aload_n X 0 dX9_next_235 rfl rfl ?_
            refine wg_iload_n X 1 dX9_next_236 rfl rfl ?_
            refine wg_iconst (v := 4) X dX9_next_237 (by decide) ?_
            refine wg_icmp_le X 245 dX9_next_238 (by decide) (fun c65 => ?_) (fun c65 => ?_)
            · have h := if_t c65 h
              refine wg_iconst (v := 2) X dX9_next_245 (by decide) ?_
              obtain ⟨M66, e67, h⟩ := lt_some h
              refine wg_putMe X cl9 (SMi hS 55 9 rfl) 24 (by decide) dX9_next_246 k_906 rfl rfl rfl rfl e67 ?_
              refine wg_goto X 321 dX9_next_249 (by decide) ?_
              exact wg_vret X ⟨rfl, (sm_inj h)⟩ hr dX9_next_321
            · have h := if_f c65 h
              refine wg_iconst (v := 4) X dX9_next_241 (by decide) ?_
              refine wg_goto X 246 dX9_next_242 (by decide) ?_
              obtain ⟨M68, e69, h⟩ := lt_some h
              refine wg_putMe X cl9 (SMi hS 55 9 rfl) 24 (by decide) dX9_next_246 k_906 rfl rfl rfl rfl e69 ?_
              refine wg_goto X 321 dX9_next_249 (by decide) ?_
              exact wg_vret X ⟨rfl, (sm_inj h)⟩ hr dX9_next_321
      · have h := if_f c23 h
        refine wg_aload_n X 1 dX9_next_95 rfl rfl ?_
        refine wg_iconst (v := 1) X dX9_next_96 (by decide) ?_
        obtain ⟨M70, e71, h⟩ := lt_some h
        refine wg_putMe X cl9 (SMi hS 55 9 rfl) 24 (by decide) dX9_next_97 k_906 rfl rfl rfl rfl e71 ?_
        obtain ⟨o80, h81, h⟩ := bd_o h
        refine wg_pick [1] (lv' := [(0, .ref (ad 55))]) rfl ?_
        refine L_X9_next_l100 X hr hS D0 C N     N M70 o80 h81 (fun M79 e83 => ?_)
        · subst o80
          replace h := bd_in h
          exact wg_vret X ⟨rfl, (sm_inj h)⟩ hr dX9_next_321
    · have h := if_f c20 h
      refine wg_aload_n X 1 dX9_next_65 rfl rfl ?_
      refine wg_iconst (v := 0) X dX9_next_66 (by decide) ?_
      obtain ⟨M84, e85, h⟩ := lt_some h
      refine wg_putMe X cl9 (SMi hS 55 9 rfl) 24 (by decide) dX9_next_67 k_906 rfl rfl rfl rfl e85 ?_
      refine wg_aload_n X 1 dX9_next_70 rfl rfl ?_
      refine wg_aload_n X 1 dX9_next_71 rfl rfl ?_
      refine wg_getM X cl9 (SMi hS 55 9 rfl) 22 (by decide) dX9_next_72 k_904 rfl ?_
      obtain ⟨M86, e87, h⟩ := lt_some h
      refine wg_putMe X cl9 (SMi hS 55 9 rfl) 25 (by decide) dX9_next_75 k_907 rfl rfl rfl rfl e87 ?_
      refine wg_goto X 321 dX9_next_78 (by decide) ?_
      exact wg_vret X ⟨rfl, (sm_inj h)⟩ hr dX9_next_321
-- WindowsGiveModel.fail()V (('c', 55),)
def f_X9_fail (M : wg_M)  : Option wg_M :=
  if (M.1 55 28) = 0 then (
    lt_ (wg_sM M 55 28 (1 : Int32)) fun M2 =>
    lt_ (wg_sM M2 55 29 (M2.1 55 25)) fun M4 =>
    some M4)
  else (
    some M)
set_option maxHeartbeats 4000000 in
set_option maxRecDepth 100000 in
theorem c_X9_fail (l : Launch) (E : wg_Ev) (ad : Nat → Nat) (S : wg_Sh) (hS : wg_SM S) (C : wg_C) (M : wg_M)   {D0 : wg_M} (h : f_X9_fail M  = some D0) : wg_Cv l yX9_fail cX9_fail 1 none 0 0 E ad S C M [.ref (ad 55)] C D0 := by
  refine wg_start (own := RX9) (by decide +kernel) rfl (Nat.le_of_ble_eq_true rfl) ?_
  intro p e s m below meth c X hr hnm
  refine wg_lv (lv' := [(0, .ref (ad 55))]) rfl ?_
  unfold f_X9_fail at h
  refine wg_aload_n X 0 dX9_fail_0 rfl rfl ?_
  refine wg_getM X cl9 (SMi hS 55 9 rfl) 28 (by decide) dX9_fail_1 k_910 rfl ?_
  refine wg_if_ne X 20 dX9_fail_4 (by decide) (fun c1 => ?_) (fun c1 => ?_)
  · have h := if_f c1 h
    exact wg_vret X ⟨rfl, (sm_inj h)⟩ hr dX9_fail_20
  · have h := if_t c1 h
    refine wg_aload_n X 0 dX9_fail_7 rfl rfl ?_
    refine wg_iconst (v := 1) X dX9_fail_8 (by decide) ?_
    obtain ⟨M2, e3, h⟩ := lt_some h
    refine wg_putMe X cl9 (SMi hS 55 9 rfl) 28 (by decide) dX9_fail_9 k_910 rfl rfl (by decide) (by decide) e3 ?_
    refine wg_aload_n X 0 dX9_fail_12 rfl rfl ?_
    refine wg_aload_n X 0 dX9_fail_13 rfl rfl ?_
    refine wg_getM X cl9 (SMi hS 55 9 rfl) 25 (by decide) dX9_fail_14 k_907 rfl ?_
    obtain ⟨M4, e5, h⟩ := lt_some h
    refine wg_putMe X cl9 (SMi hS 55 9 rfl) 29 (by decide) dX9_fail_17 k_911 rfl rfl rfl rfl e5 ?_
    exact wg_vret X ⟨rfl, (sm_inj h)⟩ hr dX9_fail_20
-- WindowsGiveModel.isLetter(II)Z (('c', 55), 'i', 'i')
def f_X9_isLetter (M : wg_M) (p1 : Int32) (p2 : Int32) : Option Int32 :=
  if (M.1 55 23) ≤ ((M.1 55 25) + p1) then (
    if p2 = 0 then (
      some (1 : Int32))
    else (
      some (0 : Int32)))
  else (
    bd (f_X9_byteAt M ((M.1 55 25) + p1)) fun r4 =>
    if r4 = p2 then (
      some (1 : Int32))
    else (
      some (0 : Int32)))
set_option maxHeartbeats 4000000 in
set_option maxRecDepth 100000 in
theorem c_X9_isLetter (l : Launch) (E : wg_Ev) (ad : Nat → Nat) (S : wg_Sh) (hS : wg_SM S) (C : wg_C) (M : wg_M) (p1 : Int32) (p2 : Int32)  {r0 : Int32} (h : f_X9_isLetter M p1 p2 = some r0) : wg_Ci l yX9_isLetter cX9_isLetter 3 (some .boolean) 1 21 E ad S C M [.ref (ad 55), .int p1, .int p2] r0 C M := by
  refine wg_start (own := RX9) (by decide +kernel) rfl (Nat.le_of_ble_eq_true rfl) ?_
  intro p e s m below meth c X hr hnm
  refine wg_lv (lv' := [(0, .ref (ad 55)), (1, .int p1), (2, .int p2)]) rfl ?_
  unfold f_X9_isLetter at h
  refine wg_aload_n X 0 dX9_isLetter_0 rfl rfl ?_
  refine wg_getM X cl9 (SMi hS 55 9 rfl) 25 (by decide) dX9_isLetter_1 k_907 rfl ?_
  refine wg_iload_n X 1 dX9_isLetter_4 rfl rfl ?_
  refine wg_iadd X dX9_isLetter_5 ?_
  refine wg_aload_n X 0 dX9_isLetter_6 rfl rfl ?_
  refine wg_getM X cl9 (SMi hS 55 9 rfl) 23 (by decide) dX9_isLetter_7 k_905 rfl ?_
  refine wg_icmp_ge X 35 dX9_isLetter_10 (by decide) (fun c1 => ?_) (fun c1 => ?_)
  · have h := if_t c1 h
    refine wg_iload_n X 2 dX9_isLetter_35 rfl rfl ?_
    refine wg_if_ne X 43 dX9_isLetter_36 (by decide) (fun c2 => ?_) (fun c2 => ?_)
    · have h := if_f c2 h
      refine wg_iconst (v := 0) X dX9_isLetter_43 (by decide) ?_
      exact wg_zret X ⟨(sm_inj h), rfl, rfl⟩ hr (by decide) dX9_isLetter_44
    · have h := if_t c2 h
      refine wg_iconst (v := 1) X dX9_isLetter_39 (by decide) ?_
      refine wg_goto X 44 dX9_isLetter_40 (by decide) ?_
      exact wg_zret X ⟨(sm_inj h), rfl, rfl⟩ hr (by decide) dX9_isLetter_44
  · have h := if_f c1 h
    refine wg_aload_n X 0 dX9_isLetter_13 rfl rfl ?_
    refine wg_aload_n X 0 dX9_isLetter_14 rfl rfl ?_
    refine wg_getM X cl9 (SMi hS 55 9 rfl) 25 (by decide) dX9_isLetter_15 k_907 rfl ?_
    refine wg_iload_n X 1 dX9_isLetter_18 rfl rfl ?_
    refine wg_iadd X dX9_isLetter_19 ?_
    obtain ⟨r4, h3, h⟩ := bd_some h
    refine wg_callVi (As := [.int ((M.1 55 25) + p1)]) (rest := []) X (c_X9_byteAt l E ad S hS C M ((M.1 55 25) + p1)  h3) T_yX9_byteAt k_1087 cl9 (SMi hS 55 9 rfl) dX9_isLetter_20 rfl rfl (Nat.le_of_ble_eq_true rfl) ⟨Nat.le_of_ble_eq_true rfl, Nat.le_of_ble_eq_true rfl⟩ ⟨Nat.zero_le _, Nat.zero_le _⟩ ?_
    refine wg_iload_n X 2 dX9_isLetter_23 rfl rfl ?_
    refine wg_icmp_ne X 31 dX9_isLetter_24 (by decide) (fun c5 => ?_) (fun c5 => ?_)
    · have h := if_f c5 h
      refine wg_iconst (v := 0) X dX9_isLetter_31 (by decide) ?_
      refine wg_goto X 44 dX9_isLetter_32 (by decide) ?_
      exact wg_zret X ⟨(sm_inj h), rfl, rfl⟩ hr (by decide) dX9_isLetter_44
    · have h := if_t c5 h
      refine wg_iconst (v := 1) X dX9_isLetter_27 (by decide) ?_
      refine wg_goto X 44 dX9_isLetter_28 (by decide) ?_
      exact wg_zret X ⟨(sm_inj h), rfl, rfl⟩ hr (by decide) dX9_isLetter_44
-- WindowsGiveModel.isWord(IIIIIIII)Z (('c', 55), 'i', 'i', 'i', 'i', 'i', 'i', 'i', 'i')
def f_X9_isWord (M : wg_M) (p1 : Int32) (p2 : Int32) (p3 : Int32) (p4 : Int32) (p5 : Int32) (p6 : Int32) (p7 : Int32) (p8 : Int32) : Option Int32 :=
  if (M.1 55 28) = 0 then (
    if (M.1 55 24) = (1 : Int32) then (
      if ((M.1 55 25) + (8 : Int32)) < (M.1 55 23) then (
        some (0 : Int32))
      else (
        bd (f_X9_isLetter M (0 : Int32) p1) fun r5 =>
        if r5 = 0 then (
          some (0 : Int32))
        else (
          bd (f_X9_isLetter M (1 : Int32) p2) fun r8 =>
          if r8 = 0 then (
            some (0 : Int32))
          else (
            bd (f_X9_isLetter M (2 : Int32) p3) fun r11 =>
            if r11 = 0 then (
              some (0 : Int32))
            else (
              bd (f_X9_isLetter M (3 : Int32) p4) fun r14 =>
              if r14 = 0 then (
                some (0 : Int32))
              else (
                bd (f_X9_isLetter M (4 : Int32) p5) fun r17 =>
                if r17 = 0 then (
                  some (0 : Int32))
                else (
                  bd (f_X9_isLetter M (5 : Int32) p6) fun r20 =>
                  if r20 = 0 then (
                    some (0 : Int32))
                  else (
                    bd (f_X9_isLetter M (6 : Int32) p7) fun r23 =>
                    if r23 = 0 then (
                      some (0 : Int32))
                    else (
                      bd (f_X9_isLetter M (7 : Int32) p8) fun r26 =>
                      if r26 = 0 then (
                        some (0 : Int32))
                      else (
                        some (1 : Int32)))))))))))
    else (
      some (0 : Int32)))
  else (
    some (0 : Int32))
set_option maxHeartbeats 4000000 in
set_option maxRecDepth 100000 in
theorem c_X9_isWord (l : Launch) (E : wg_Ev) (ad : Nat → Nat) (S : wg_Sh) (hS : wg_SM S) (C : wg_C) (M : wg_M) (p1 : Int32) (p2 : Int32) (p3 : Int32) (p4 : Int32) (p5 : Int32) (p6 : Int32) (p7 : Int32) (p8 : Int32)  {r0 : Int32} (h : f_X9_isWord M p1 p2 p3 p4 p5 p6 p7 p8 = some r0) : wg_Ci l yX9_isWord cX9_isWord 9 (some .boolean) 2 43 E ad S C M [.ref (ad 55), .int p1, .int p2, .int p3, .int p4, .int p5, .int p6, .int p7, .int p8] r0 C M := by
  refine wg_start (own := RX9) (by decide +kernel) rfl (Nat.le_of_ble_eq_true rfl) ?_
  intro p e s m below meth c X hr hnm
  refine wg_lv (lv' := [(0, .ref (ad 55)), (1, .int p1), (2, .int p2), (3, .int p3), (4, .int p4), (5, .int p5), (6, .int p6), (7, .int p7), (8, .int p8)]) rfl ?_
  unfold f_X9_isWord at h
  refine wg_aload_n X 0 dX9_isWord_0 rfl rfl ?_
  refine wg_getM X cl9 (SMi hS 55 9 rfl) 28 (by decide) dX9_isWord_1 k_910 rfl ?_
  refine wg_if_ne X 112 dX9_isWord_4 (by decide) (fun c1 => ?_) (fun c1 => ?_)
  · have h := if_f c1 h
    refine wg_iconst (v := 0) X dX9_isWord_112 (by decide) ?_
    exact wg_zret X ⟨(sm_inj h), rfl, rfl⟩ hr (by decide) dX9_isWord_113
  · have h := if_t c1 h
    refine wg_aload_n X 0 dX9_isWord_7 rfl rfl ?_
    refine wg_getM X cl9 (SMi hS 55 9 rfl) 24 (by decide) dX9_isWord_8 k_906 rfl ?_
    refine wg_iconst (v := 1) X dX9_isWord_11 (by decide) ?_
    refine wg_icmp_ne X 112 dX9_isWord_12 (by decide) (fun c2 => ?_) (fun c2 => ?_)
    · have h := if_f c2 h
      refine wg_iconst (v := 0) X dX9_isWord_112 (by decide) ?_
      exact wg_zret X ⟨(sm_inj h), rfl, rfl⟩ hr (by decide) dX9_isWord_113
    · have h := if_t c2 h
      refine wg_aload_n X 0 dX9_isWord_15 rfl rfl ?_
      refine wg_getM X cl9 (SMi hS 55 9 rfl) 23 (by decide) dX9_isWord_16 k_905 rfl ?_
      refine wg_aload_n X 0 dX9_isWord_19 rfl rfl ?_
      refine wg_getM X cl9 (SMi hS 55 9 rfl) 25 (by decide) dX9_isWord_20 k_907 rfl ?_
      refine wg_bipush (v := 8) X dX9_isWord_23 (by decide) ?_
      refine wg_iadd X dX9_isWord_25 ?_
      refine wg_icmp_gt X 112 dX9_isWord_26 (by decide) (fun c3 => ?_) (fun c3 => ?_)
      · have h := if_t c3 h
        refine wg_iconst (v := 0) X dX9_isWord_112 (by decide) ?_
        exact wg_zret X ⟨(sm_inj h), rfl, rfl⟩ hr (by decide) dX9_isWord_113
      · have h := if_f c3 h
        refine wg_aload_n X 0 dX9_isWord_29 rfl rfl ?_
        refine wg_iconst (v := 0) X dX9_isWord_30 (by decide) ?_
        refine wg_iload_n X 1 dX9_isWord_31 rfl rfl ?_
        obtain ⟨r5, h4, h⟩ := bd_some h
        refine wg_callVi (As := [.int (0 : Int32), .int p1]) (rest := []) X (c_X9_isLetter l E ad S hS C M (0 : Int32) p1  h4) T_yX9_isLetter k_1100 cl9 (SMi hS 55 9 rfl) dX9_isWord_32 rfl rfl (Nat.le_of_ble_eq_true rfl) ⟨Nat.le_of_ble_eq_true rfl, Nat.le_of_ble_eq_true rfl⟩ ⟨Nat.zero_le _, Nat.zero_le _⟩ ?_
        refine wg_if_eq X 112 dX9_isWord_35 (by decide) (fun c6 => ?_) (fun c6 => ?_)
        · have h := if_t c6 h
          refine wg_iconst (v := 0) X dX9_isWord_112 (by decide) ?_
          exact wg_zret X ⟨(sm_inj h), rfl, rfl⟩ hr (by decide) dX9_isWord_113
        · have h := if_f c6 h
          refine wg_aload_n X 0 dX9_isWord_38 rfl rfl ?_
          refine wg_iconst (v := 1) X dX9_isWord_39 (by decide) ?_
          refine wg_iload_n X 2 dX9_isWord_40 rfl rfl ?_
          obtain ⟨r8, h7, h⟩ := bd_some h
          refine wg_callVi (As := [.int (1 : Int32), .int p2]) (rest := []) X (c_X9_isLetter l E ad S hS C M (1 : Int32) p2  h7) T_yX9_isLetter k_1100 cl9 (SMi hS 55 9 rfl) dX9_isWord_41 rfl rfl (Nat.le_of_ble_eq_true rfl) ⟨Nat.le_of_ble_eq_true rfl, Nat.le_of_ble_eq_true rfl⟩ ⟨Nat.zero_le _, Nat.zero_le _⟩ ?_
          refine wg_if_eq X 112 dX9_isWord_44 (by decide) (fun c9 => ?_) (fun c9 => ?_)
          · have h := if_t c9 h
            refine wg_iconst (v := 0) X dX9_isWord_112 (by decide) ?_
            exact wg_zret X ⟨(sm_inj h), rfl, rfl⟩ hr (by decide) dX9_isWord_113
          · have h := if_f c9 h
            refine wg_aload_n X 0 dX9_isWord_47 rfl rfl ?_
            refine wg_iconst (v := 2) X dX9_isWord_48 (by decide) ?_
            refine wg_iload_n X 3 dX9_isWord_49 rfl rfl ?_
            obtain ⟨r11, h10, h⟩ := bd_some h
            refine wg_callVi (As := [.int (2 : Int32), .int p3]) (rest := []) X (c_X9_isLetter l E ad S hS C M (2 : Int32) p3  h10) T_yX9_isLetter k_1100 cl9 (SMi hS 55 9 rfl) dX9_isWord_50 rfl rfl (Nat.le_of_ble_eq_true rfl) ⟨Nat.le_of_ble_eq_true rfl, Nat.le_of_ble_eq_true rfl⟩ ⟨Nat.zero_le _, Nat.zero_le _⟩ ?_
            refine wg_if_eq X 112 dX9_isWord_53 (by decide) (fun c12 => ?_) (fun c12 => ?_)
            · have h := if_t c12 h
              refine wg_iconst (v := 0) X dX9_isWord_112 (by decide) ?_
              exact wg_zret X ⟨(sm_inj h), rfl, rfl⟩ hr (by decide) dX9_isWord_113
            · have h := if_f c12 h
              refine wg_aload_n X 0 dX9_isWord_56 rfl rfl ?_
              refine wg_iconst (v := 3) X dX9_isWord_57 (by decide) ?_
              refine wg_iload X 4 dX9_isWord_58 rfl ?_
              obtain ⟨r14, h13, h⟩ := bd_some h
              refine wg_callVi (As := [.int (3 : Int32), .int p4]) (rest := []) X (c_X9_isLetter l E ad S hS C M (3 : Int32) p4  h13) T_yX9_isLetter k_1100 cl9 (SMi hS 55 9 rfl) dX9_isWord_60 rfl rfl (Nat.le_of_ble_eq_true rfl) ⟨Nat.le_of_ble_eq_true rfl, Nat.le_of_ble_eq_true rfl⟩ ⟨Nat.zero_le _, Nat.zero_le _⟩ ?_
              refine wg_if_eq X 112 dX9_isWord_63 (by decide) (fun c15 => ?_) (fun c15 => ?_)
              · have h := if_t c15 h
                refine wg_iconst (v := 0) X dX9_isWord_112 (by decide) ?_
                exact wg_zret X ⟨(sm_inj h), rfl, rfl⟩ hr (by decide) dX9_isWord_113
              · have h := if_f c15 h
                refine wg_aload_n X 0 dX9_isWord_66 rfl rfl ?_
                refine wg_iconst (v := 4) X dX9_isWord_67 (by decide) ?_
                refine wg_iload X 5 dX9_isWord_68 rfl ?_
                obtain ⟨r17, h16, h⟩ := bd_some h
                refine wg_callVi (As := [.int (4 : Int32), .int p5]) (rest := []) X (c_X9_isLetter l E ad S hS C M (4 : Int32) p5  h16) T_yX9_isLetter k_1100 cl9 (SMi hS 55 9 rfl) dX9_isWord_70 rfl rfl (Nat.le_of_ble_eq_true rfl) ⟨Nat.le_of_ble_eq_true rfl, Nat.le_of_ble_eq_true rfl⟩ ⟨Nat.zero_le _, Nat.zero_le _⟩ ?_
                refine wg_if_eq X 112 dX9_isWord_73 (by decide) (fun c18 => ?_) (fun c18 => ?_)
                · have h := if_t c18 h
                  refine wg_iconst (v := 0) X dX9_isWord_112 (by decide) ?_
                  exact wg_zret X ⟨(sm_inj h), rfl, rfl⟩ hr (by decide) dX9_isWord_113
                · have h := if_f c18 h
                  refine wg_aload_n X 0 dX9_isWord_76 rfl rfl ?_
                  refine wg_iconst (v := 5) X dX9_isWord_77 (by decide) ?_
                  refine wg_iload X 6 dX9_isWord_78 rfl ?_
                  obtain ⟨r20, h19, h⟩ := bd_some h
                  refine wg_callVi (As := [.int (5 : Int32), .int p6]) (rest := []) X (c_X9_isLetter l E ad S hS C M (5 : Int32) p6  h19) T_yX9_isLetter k_1100 cl9 (SMi hS 55 9 rfl) dX9_isWord_80 rfl rfl (Nat.le_of_ble_eq_true rfl) ⟨Nat.le_of_ble_eq_true rfl, Nat.le_of_ble_eq_true rfl⟩ ⟨Nat.zero_le _, Nat.zero_le _⟩ ?_
                  refine wg_if_eq X 112 dX9_isWord_83 (by decide) (fun c21 => ?_) (fun c21 => ?_)
                  · have h := if_t c21 h
                    refine wg_iconst (v := 0) X dX9_isWord_112 (by decide) ?_
                    exact wg_zret X ⟨(sm_inj h), rfl, rfl⟩ hr (by decide) dX9_isWord_113
                  · have h := if_f c21 h
                    refine wg_aload_n X 0 dX9_isWord_86 rfl rfl ?_
                    refine wg_bipush (v := 6) X dX9_isWord_87 (by decide) ?_
                    refine wg_iload X 7 dX9_isWord_89 rfl ?_
                    obtain ⟨r23, h22, h⟩ := bd_some h
                    refine wg_callVi (As := [.int (6 : Int32), .int p7]) (rest := []) X (c_X9_isLetter l E ad S hS C M (6 : Int32) p7  h22) T_yX9_isLetter k_1100 cl9 (SMi hS 55 9 rfl) dX9_isWord_91 rfl rfl (Nat.le_of_ble_eq_true rfl) ⟨Nat.le_of_ble_eq_true rfl, Nat.le_of_ble_eq_true rfl⟩ ⟨Nat.zero_le _, Nat.zero_le _⟩ ?_
                    refine wg_if_eq X 112 dX9_isWord_94 (by decide) (fun c24 => ?_) (fun c24 => ?_)
                    · have h := if_t c24 h
                      refine wg_iconst (v := 0) X dX9_isWord_112 (by decide) ?_
                      exact wg_zret X ⟨(sm_inj h), rfl, rfl⟩ hr (by decide) dX9_isWord_113
                    · have h := if_f c24 h
                      refine wg_aload_n X 0 dX9_isWord_97 rfl rfl ?_
                      refine wg_bipush (v := 7) X dX9_isWord_98 (by decide) ?_
                      refine wg_iload X 8 dX9_isWord_100 rfl ?_
                      obtain ⟨r26, h25, h⟩ := bd_some h
                      refine wg_callVi (As := [.int (7 : Int32), .int p8]) (rest := []) X (c_X9_isLetter l E ad S hS C M (7 : Int32) p8  h25) T_yX9_isLetter k_1100 cl9 (SMi hS 55 9 rfl) dX9_isWord_102 rfl rfl (Nat.le_of_ble_eq_true rfl) ⟨Nat.le_of_ble_eq_true rfl, Nat.le_of_ble_eq_true rfl⟩ ⟨Nat.zero_le _, Nat.zero_le _⟩ ?_
                      refine wg_if_eq X 112 dX9_isWord_105 (by decide) (fun c27 => ?_) (fun c27 => ?_)
                      · have h := if_t c27 h
                        refine wg_iconst (v := 0) X dX9_isWord_112 (by decide) ?_
                        exact wg_zret X ⟨(sm_inj h), rfl, rfl⟩ hr (by decide) dX9_isWord_113
                      · have h := if_f c27 h
                        refine wg_iconst (v := 1) X dX9_isWord_108 (by decide) ?_
                        refine wg_goto X 113 dX9_isWord_109 (by decide) ?_
                        exact wg_zret X ⟨(sm_inj h), rfl, rfl⟩ hr (by decide) dX9_isWord_113
-- WindowsGiveModel.isSign(I)Z (('c', 55), 'i')
def f_X9_isSign (M : wg_M) (p1 : Int32) : Option Int32 :=
  if (M.1 55 28) = 0 then (
    if (M.1 55 24) = (3 : Int32) then (
      if (lg_cmp (M.2 55) p1.toInt64) = 0 then (
        some (1 : Int32))
      else (
        some (0 : Int32)))
    else (
      some (0 : Int32)))
  else (
    some (0 : Int32))
set_option maxHeartbeats 4000000 in
set_option maxRecDepth 100000 in
theorem c_X9_isSign (l : Launch) (E : wg_Ev) (ad : Nat → Nat) (S : wg_Sh) (hS : wg_SM S) (C : wg_C) (M : wg_M) (p1 : Int32)  {r0 : Int32} (h : f_X9_isSign M p1 = some r0) : wg_Ci l yX9_isSign cX9_isSign 2 (some .boolean) 0 0 E ad S C M [.ref (ad 55), .int p1] r0 C M := by
  refine wg_start (own := RX9) (by decide +kernel) rfl (Nat.le_of_ble_eq_true rfl) ?_
  intro p e s m below meth c X hr hnm
  refine wg_lv (lv' := [(0, .ref (ad 55)), (1, .int p1)]) rfl ?_
  unfold f_X9_isSign at h
  refine wg_aload_n X 0 dX9_isSign_0 rfl rfl ?_
  refine wg_getM X cl9 (SMi hS 55 9 rfl) 28 (by decide) dX9_isSign_1 k_910 rfl ?_
  refine wg_if_ne X 29 dX9_isSign_4 (by decide) (fun c1 => ?_) (fun c1 => ?_)
  · have h := if_f c1 h
    refine wg_iconst (v := 0) X dX9_isSign_29 (by decide) ?_
    exact wg_zret X ⟨(sm_inj h), rfl, rfl⟩ hr (by decide) dX9_isSign_30
  · have h := if_t c1 h
    refine wg_aload_n X 0 dX9_isSign_7 rfl rfl ?_
    refine wg_getM X cl9 (SMi hS 55 9 rfl) 24 (by decide) dX9_isSign_8 k_906 rfl ?_
    refine wg_iconst (v := 3) X dX9_isSign_11 (by decide) ?_
    refine wg_icmp_ne X 29 dX9_isSign_12 (by decide) (fun c2 => ?_) (fun c2 => ?_)
    · have h := if_f c2 h
      refine wg_iconst (v := 0) X dX9_isSign_29 (by decide) ?_
      exact wg_zret X ⟨(sm_inj h), rfl, rfl⟩ hr (by decide) dX9_isSign_30
    · have h := if_t c2 h
      refine wg_aload_n X 0 dX9_isSign_15 rfl rfl ?_
      refine wg_getJ X cl9 (SMi hS 55 9 rfl) 26 (by decide) dX9_isSign_16 k_908 rfl ?_
      refine wg_iload_n X 1 dX9_isSign_19 rfl rfl ?_
      refine wg_i2l X dX9_isSign_20 ?_
      refine wg_lcmp X dX9_isSign_21 ?_
      refine wg_if_ne X 29 dX9_isSign_22 (by decide) (fun c3 => ?_) (fun c3 => ?_)
      · have h := if_f c3 h
        refine wg_iconst (v := 0) X dX9_isSign_29 (by decide) ?_
        exact wg_zret X ⟨(sm_inj h), rfl, rfl⟩ hr (by decide) dX9_isSign_30
      · have h := if_t c3 h
        refine wg_iconst (v := 1) X dX9_isSign_25 (by decide) ?_
        refine wg_goto X 30 dX9_isSign_26 (by decide) ?_
        exact wg_zret X ⟨(sm_inj h), rfl, rfl⟩ hr (by decide) dX9_isSign_30
-- WindowsGiveModel.opens()Z (('c', 55),)
def f_X9_opens (N : Nat) (M : wg_M)  : Option (Int32 × wg_M) :=
  if (M.1 55 27) = (5 : Int32) then (
    bd (f_X9_fail M ) fun M7 =>
    some ((0 : Int32), M7))
  else (
    lt_ (wg_sM M 55 27 ((M.1 55 27) + (1 : Int32))) fun M2 =>
    bd (f_X9_next N M2 ) fun M5 =>
    some ((1 : Int32), M5))
set_option maxHeartbeats 4000000 in
set_option maxRecDepth 100000 in
theorem c_X9_opens (l : Launch) (E : wg_Ev) (ad : Nat → Nat) (S : wg_Sh) (hS : wg_SM S) (N : Nat) (C : wg_C) (M : wg_M)   {r0 : Int32} {D0 : wg_M} (h : f_X9_opens N M  = some (r0, D0)) : wg_Ci l yX9_opens cX9_opens 1 (some .boolean) 2 47 E ad S C M [.ref (ad 55)] r0 C D0 := by
  refine wg_start (own := RX9) (by decide +kernel) rfl (Nat.le_of_ble_eq_true rfl) ?_
  intro p e s m below meth c X hr hnm
  refine wg_lv (lv' := [(0, .ref (ad 55))]) rfl ?_
  unfold f_X9_opens at h
  refine wg_aload_n X 0 dX9_opens_0 rfl rfl ?_
  refine wg_getM X cl9 (SMi hS 55 9 rfl) 27 (by decide) dX9_opens_1 k_909 rfl ?_
  refine wg_iconst (v := 5) X dX9_opens_4 (by decide) ?_
  refine wg_icmp_ne X 14 dX9_opens_5 (by decide) (fun c1 => ?_) (fun c1 => ?_)
  · have h := if_f c1 h
    refine wg_aload_n X 0 dX9_opens_14 rfl rfl ?_
    refine wg_dup X dX9_opens_15 rfl ?_
    refine wg_getM X cl9 (SMi hS 55 9 rfl) 27 (by decide) dX9_opens_16 k_909 rfl ?_
    refine wg_iconst (v := 1) X dX9_opens_19 (by decide) ?_
    refine wg_iadd X dX9_opens_20 ?_
    obtain ⟨M2, e3, h⟩ := lt_some h
    refine wg_putMe X cl9 (SMi hS 55 9 rfl) 27 (by decide) dX9_opens_21 k_909 rfl rfl rfl rfl e3 ?_
    refine wg_aload_n X 0 dX9_opens_24 rfl rfl ?_
    obtain ⟨M5, h4, h⟩ := bd_some h
    refine wg_callVv (As := []) (rest := []) X (c_X9_next l E ad S hS N C M2   h4) T_yX9_next k_1083 cl9 (SMi hS 55 9 rfl) dX9_opens_25 rfl rfl (Nat.le_of_ble_eq_true rfl) ⟨Nat.le_of_ble_eq_true rfl, Nat.le_of_ble_eq_true rfl⟩ ⟨Nat.zero_le _, Nat.zero_le _⟩ ?_
    refine wg_iconst (v := 1) X dX9_opens_28 (by decide) ?_
    exact wg_zret X ⟨(Prod.mk.inj (sm_inj h)).1, rfl, (Prod.mk.inj (sm_inj h)).2⟩ hr (by decide) dX9_opens_29
  · have h := if_t c1 h
    refine wg_aload_n X 0 dX9_opens_8 rfl rfl ?_
    obtain ⟨M7, h6, h⟩ := bd_some h
    refine wg_callVv (As := []) (rest := []) X (c_X9_fail l E ad S hS C M   h6) T_yX9_fail k_1108 cl9 (SMi hS 55 9 rfl) dX9_opens_9 rfl rfl (Nat.le_of_ble_eq_true rfl) ⟨Nat.le_of_ble_eq_true rfl, Nat.le_of_ble_eq_true rfl⟩ ⟨Nat.zero_le _, Nat.zero_le _⟩ ?_
    refine wg_iconst (v := 0) X dX9_opens_12 (by decide) ?_
    exact wg_zret X ⟨(Prod.mk.inj (sm_inj h)).1, rfl, (Prod.mk.inj (sm_inj h)).2⟩ hr (by decide) dX9_opens_13
-- WindowsGiveModel.name()I (('c', 55),)
def f_X9_name (M : wg_M)  : Option (Int32 × wg_M) :=
  bd (f_X9_isWord M (100 : Int32) (97 : Int32) (121 : Int32) (0 : Int32) (0 : Int32) (0 : Int32) (0 : Int32) (0 : Int32)) fun r2 =>
  if r2 = 0 then (
    bd (f_X9_isWord M (115 : Int32) (104 : Int32) (105 : Int32) (102 : Int32) (116 : Int32) (0 : Int32) (0 : Int32) (0 : Int32)) fun r5 =>
    if r5 = 0 then (
      bd (f_X9_isWord M (110 : Int32) (117 : Int32) (109 : Int32) (98 : Int32) (101 : Int32) (114 : Int32) (0 : Int32) (0 : Int32)) fun r8 =>
      if r8 = 0 then (
        bd (f_X9_isWord M (119 : Int32) (101 : Int32) (97 : Int32) (116 : Int32) (104 : Int32) (101 : Int32) (114 : Int32) (0 : Int32)) fun r11 =>
        if r11 = 0 then (
          bd (f_X9_isWord M (119 : Int32) (105 : Int32) (110 : Int32) (100 : Int32) (111 : Int32) (119 : Int32) (0 : Int32) (0 : Int32)) fun r14 =>
          if r14 = 0 then (
            bd (f_X9_isWord M (114 : Int32) (111 : Int32) (111 : Int32) (109 : Int32) (0 : Int32) (0 : Int32) (0 : Int32) (0 : Int32)) fun r17 =>
            if r17 = 0 then (
              bd (f_X9_fail M ) fun M20 =>
              some ((0 : Int32), M20))
            else (
              some ((M.1 55 20), M)))
          else (
            some ((M.1 55 19), M)))
        else (
          some ((M.1 55 18), M)))
      else (
        some ((M.1 55 17), M)))
    else (
      some ((M.1 55 16), M)))
  else (
    some ((M.1 55 15), M))
set_option maxHeartbeats 4000000 in
set_option maxRecDepth 100000 in
theorem c_X9_name (l : Launch) (E : wg_Ev) (ad : Nat → Nat) (S : wg_Sh) (hS : wg_SM S) (C : wg_C) (M : wg_M)   {r0 : Int32} {D0 : wg_M} (h : f_X9_name M  = some (r0, D0)) : wg_Ci l yX9_name cX9_name 1 (some .int) 3 71 E ad S C M [.ref (ad 55)] r0 C D0 := by
  refine wg_start (own := RX9) (by decide +kernel) rfl (Nat.le_of_ble_eq_true rfl) ?_
  intro p e s m below meth c X hr hnm
  refine wg_lv (lv' := [(0, .ref (ad 55))]) rfl ?_
  unfold f_X9_name at h
  refine wg_aload_n X 0 dX9_name_0 rfl rfl ?_
  refine wg_bipush (v := 100) X dX9_name_1 (by decide) ?_
  refine wg_bipush (v := 97) X dX9_name_3 (by decide) ?_
  refine wg_bipush (v := 121) X dX9_name_5 (by decide) ?_
  refine wg_iconst (v := 0) X dX9_name_7 (by decide) ?_
  refine wg_iconst (v := 0) X dX9_name_8 (by decide) ?_
  refine wg_iconst (v := 0) X dX9_name_9 (by decide) ?_
  refine wg_iconst (v := 0) X dX9_name_10 (by decide) ?_
  refine wg_iconst (v := 0) X dX9_name_11 (by decide) ?_
  obtain ⟨r2, h1, h⟩ := bd_some h
  refine wg_callVi (As := [.int (100 : Int32), .int (97 : Int32), .int (121 : Int32), .int (0 : Int32), .int (0 : Int32), .int (0 : Int32), .int (0 : Int32), .int (0 : Int32)]) (rest := []) X (c_X9_isWord l E ad S hS C M (100 : Int32) (97 : Int32) (121 : Int32) (0 : Int32) (0 : Int32) (0 : Int32) (0 : Int32) (0 : Int32)  h1) T_yX9_isWord k_1096 cl9 (SMi hS 55 9 rfl) dX9_name_12 rfl rfl (Nat.le_of_ble_eq_true rfl) ⟨Nat.le_of_ble_eq_true rfl, Nat.le_of_ble_eq_true rfl⟩ ⟨Nat.zero_le _, Nat.zero_le _⟩ ?_
  refine wg_if_eq X 23 dX9_name_15 (by decide) (fun c3 => ?_) (fun c3 => ?_)
  · have h := if_t c3 h
    refine wg_aload_n X 0 dX9_name_23 rfl rfl ?_
    refine wg_bipush (v := 115) X dX9_name_24 (by decide) ?_
    refine wg_bipush (v := 104) X dX9_name_26 (by decide) ?_
    refine wg_bipush (v := 105) X dX9_name_28 (by decide) ?_
    refine wg_bipush (v := 102) X dX9_name_30 (by decide) ?_
    refine wg_bipush (v := 116) X dX9_name_32 (by decide) ?_
    refine wg_iconst (v := 0) X dX9_name_34 (by decide) ?_
    refine wg_iconst (v := 0) X dX9_name_35 (by decide) ?_
    refine wg_iconst (v := 0) X dX9_name_36 (by decide) ?_
    obtain ⟨r5, h4, h⟩ := bd_some h
    refine wg_callVi (As := [.int (115 : Int32), .int (104 : Int32), .int (105 : Int32), .int (102 : Int32), .int (116 : Int32), .int (0 : Int32), .int (0 : Int32), .int (0 : Int32)]) (rest := []) X (c_X9_isWord l E ad S hS C M (115 : Int32) (104 : Int32) (105 : Int32) (102 : Int32) (116 : Int32) (0 : Int32) (0 : Int32) (0 : Int32)  h4) T_yX9_isWord k_1096 cl9 (SMi hS 55 9 rfl) dX9_name_37 rfl rfl (Nat.le_of_ble_eq_true rfl) ⟨Nat.le_of_ble_eq_true rfl, Nat.le_of_ble_eq_true rfl⟩ ⟨Nat.zero_le _, Nat.zero_le _⟩ ?_
    refine wg_if_eq X 48 dX9_name_40 (by decide) (fun c6 => ?_) (fun c6 => ?_)
    · have h := if_t c6 h
      refine wg_aload_n X 0 dX9_name_48 rfl rfl ?_
      refine wg_bipush (v := 110) X dX9_name_49 (by decide) ?_
      refine wg_bipush (v := 117) X dX9_name_51 (by decide) ?_
      refine wg_bipush (v := 109) X dX9_name_53 (by decide) ?_
      refine wg_bipush (v := 98) X dX9_name_55 (by decide) ?_
      refine wg_bipush (v := 101) X dX9_name_57 (by decide) ?_
      refine wg_bipush (v := 114) X dX9_name_59 (by decide) ?_
      refine wg_iconst (v := 0) X dX9_name_61 (by decide) ?_
      refine wg_iconst (v := 0) X dX9_name_62 (by decide) ?_
      obtain ⟨r8, h7, h⟩ := bd_some h
      refine wg_callVi (As := [.int (110 : Int32), .int (117 : Int32), .int (109 : Int32), .int (98 : Int32), .int (101 : Int32), .int (114 : Int32), .int (0 : Int32), .int (0 : Int32)]) (rest := []) X (c_X9_isWord l E ad S hS C M (110 : Int32) (117 : Int32) (109 : Int32) (98 : Int32) (101 : Int32) (114 : Int32) (0 : Int32) (0 : Int32)  h7) T_yX9_isWord k_1096 cl9 (SMi hS 55 9 rfl) dX9_name_63 rfl rfl (Nat.le_of_ble_eq_true rfl) ⟨Nat.le_of_ble_eq_true rfl, Nat.le_of_ble_eq_true rfl⟩ ⟨Nat.zero_le _, Nat.zero_le _⟩ ?_
      refine wg_if_eq X 74 dX9_name_66 (by decide) (fun c9 => ?_) (fun c9 => ?_)
      · have h := if_t c9 h
        refine wg_aload_n X 0 dX9_name_74 rfl rfl ?_
        refine wg_bipush (v := 119) X dX9_name_75 (by decide) ?_
        refine wg_bipush (v := 101) X dX9_name_77 (by decide) ?_
        refine wg_bipush (v := 97) X dX9_name_79 (by decide) ?_
        refine wg_bipush (v := 116) X dX9_name_81 (by decide) ?_
        refine wg_bipush (v := 104) X dX9_name_83 (by decide) ?_
        refine wg_bipush (v := 101) X dX9_name_85 (by decide) ?_
        refine wg_bipush (v := 114) X dX9_name_87 (by decide) ?_
        refine wg_iconst (v := 0) X dX9_name_89 (by decide) ?_
        obtain ⟨r11, h10, h⟩ := bd_some h
        refine wg_callVi (As := [.int (119 : Int32), .int (101 : Int32), .int (97 : Int32), .int (116 : Int32), .int (104 : Int32), .int (101 : Int32), .int (114 : Int32), .int (0 : Int32)]) (rest := []) X (c_X9_isWord l E ad S hS C M (119 : Int32) (101 : Int32) (97 : Int32) (116 : Int32) (104 : Int32) (101 : Int32) (114 : Int32) (0 : Int32)  h10) T_yX9_isWord k_1096 cl9 (SMi hS 55 9 rfl) dX9_name_90 rfl rfl (Nat.le_of_ble_eq_true rfl) ⟨Nat.le_of_ble_eq_true rfl, Nat.le_of_ble_eq_true rfl⟩ ⟨Nat.zero_le _, Nat.zero_le _⟩ ?_
        refine wg_if_eq X 101 dX9_name_93 (by decide) (fun c12 => ?_) (fun c12 => ?_)
        · have h := if_t c12 h
          refine wg_aload_n X 0 dX9_name_101 rfl rfl ?_
          refine wg_bipush (v := 119) X dX9_name_102 (by decide) ?_
          refine wg_bipush (v := 105) X dX9_name_104 (by decide) ?_
          refine wg_bipush (v := 110) X dX9_name_106 (by decide) ?_
          refine wg_bipush (v := 100) X dX9_name_108 (by decide) ?_
          refine wg_bipush (v := 111) X dX9_name_110 (by decide) ?_
          refine wg_bipush (v := 119) X dX9_name_112 (by decide) ?_
          refine wg_iconst (v := 0) X dX9_name_114 (by decide) ?_
          refine wg_iconst (v := 0) X dX9_name_115 (by decide) ?_
          obtain ⟨r14, h13, h⟩ := bd_some h
          refine wg_callVi (As := [.int (119 : Int32), .int (105 : Int32), .int (110 : Int32), .int (100 : Int32), .int (111 : Int32), .int (119 : Int32), .int (0 : Int32), .int (0 : Int32)]) (rest := []) X (c_X9_isWord l E ad S hS C M (119 : Int32) (105 : Int32) (110 : Int32) (100 : Int32) (111 : Int32) (119 : Int32) (0 : Int32) (0 : Int32)  h13) T_yX9_isWord k_1096 cl9 (SMi hS 55 9 rfl) dX9_name_116 rfl rfl (Nat.le_of_ble_eq_true rfl) ⟨Nat.le_of_ble_eq_true rfl, Nat.le_of_ble_eq_true rfl⟩ ⟨Nat.zero_le _, Nat.zero_le _⟩ ?_
          refine wg_if_eq X 127 dX9_name_119 (by decide) (fun c15 => ?_) (fun c15 => ?_)
          · have h := if_t c15 h
            refine wg_aload_n X 0 dX9_name_127 rfl rfl ?_
            refine wg_bipush (v := 114) X dX9_name_128 (by decide) ?_
            refine wg_bipush (v := 111) X dX9_name_130 (by decide) ?_
            refine wg_bipush (v := 111) X dX9_name_132 (by decide) ?_
            refine wg_bipush (v := 109) X dX9_name_134 (by decide) ?_
            refine wg_iconst (v := 0) X dX9_name_136 (by decide) ?_
            refine wg_iconst (v := 0) X dX9_name_137 (by decide) ?_
            refine wg_iconst (v := 0) X dX9_name_138 (by decide) ?_
            refine wg_iconst (v := 0) X dX9_name_139 (by decide) ?_
            obtain ⟨r17, h16, h⟩ := bd_some h
            refine wg_callVi (As := [.int (114 : Int32), .int (111 : Int32), .int (111 : Int32), .int (109 : Int32), .int (0 : Int32), .int (0 : Int32), .int (0 : Int32), .int (0 : Int32)]) (rest := []) X (c_X9_isWord l E ad S hS C M (114 : Int32) (111 : Int32) (111 : Int32) (109 : Int32) (0 : Int32) (0 : Int32) (0 : Int32) (0 : Int32)  h16) T_yX9_isWord k_1096 cl9 (SMi hS 55 9 rfl) dX9_name_140 rfl rfl (Nat.le_of_ble_eq_true rfl) ⟨Nat.le_of_ble_eq_true rfl, Nat.le_of_ble_eq_true rfl⟩ ⟨Nat.zero_le _, Nat.zero_le _⟩ ?_
            refine wg_if_eq X 151 dX9_name_143 (by decide) (fun c18 => ?_) (fun c18 => ?_)
            · have h := if_t c18 h
              refine wg_aload_n X 0 dX9_name_151 rfl rfl ?_
              obtain ⟨M20, h19, h⟩ := bd_some h
              refine wg_callVv (As := []) (rest := []) X (c_X9_fail l E ad S hS C M   h19) T_yX9_fail k_1108 cl9 (SMi hS 55 9 rfl) dX9_name_152 rfl rfl (Nat.le_of_ble_eq_true rfl) ⟨Nat.le_of_ble_eq_true rfl, Nat.le_of_ble_eq_true rfl⟩ ⟨Nat.zero_le _, Nat.zero_le _⟩ ?_
              refine wg_iconst (v := 0) X dX9_name_155 (by decide) ?_
              exact wg_iret X ⟨(Prod.mk.inj (sm_inj h)).1, rfl, (Prod.mk.inj (sm_inj h)).2⟩ hr dX9_name_156
            · have h := if_f c18 h
              refine wg_aload_n X 0 dX9_name_146 rfl rfl ?_
              refine wg_getM X cl9 (SMi hS 55 9 rfl) 20 (by decide) dX9_name_147 k_902 rfl ?_
              exact wg_iret X ⟨(Prod.mk.inj (sm_inj h)).1, rfl, (Prod.mk.inj (sm_inj h)).2⟩ hr dX9_name_150
          · have h := if_f c15 h
            refine wg_aload_n X 0 dX9_name_122 rfl rfl ?_
            refine wg_getM X cl9 (SMi hS 55 9 rfl) 19 (by decide) dX9_name_123 k_901 rfl ?_
            exact wg_iret X ⟨(Prod.mk.inj (sm_inj h)).1, rfl, (Prod.mk.inj (sm_inj h)).2⟩ hr dX9_name_126
        · have h := if_f c12 h
          refine wg_aload_n X 0 dX9_name_96 rfl rfl ?_
          refine wg_getM X cl9 (SMi hS 55 9 rfl) 18 (by decide) dX9_name_97 k_900 rfl ?_
          exact wg_iret X ⟨(Prod.mk.inj (sm_inj h)).1, rfl, (Prod.mk.inj (sm_inj h)).2⟩ hr dX9_name_100
      · have h := if_f c9 h
        refine wg_aload_n X 0 dX9_name_69 rfl rfl ?_
        refine wg_getM X cl9 (SMi hS 55 9 rfl) 17 (by decide) dX9_name_70 k_899 rfl ?_
        exact wg_iret X ⟨(Prod.mk.inj (sm_inj h)).1, rfl, (Prod.mk.inj (sm_inj h)).2⟩ hr dX9_name_73
    · have h := if_f c6 h
      refine wg_aload_n X 0 dX9_name_43 rfl rfl ?_
      refine wg_getM X cl9 (SMi hS 55 9 rfl) 16 (by decide) dX9_name_44 k_898 rfl ?_
      exact wg_iret X ⟨(Prod.mk.inj (sm_inj h)).1, rfl, (Prod.mk.inj (sm_inj h)).2⟩ hr dX9_name_47
  · have h := if_f c3 h
    refine wg_aload_n X 0 dX9_name_18 rfl rfl ?_
    refine wg_getM X cl9 (SMi hS 55 9 rfl) 15 (by decide) dX9_name_19 k_897 rfl ?_
    exact wg_iret X ⟨(Prod.mk.inj (sm_inj h)).1, rfl, (Prod.mk.inj (sm_inj h)).2⟩ hr dX9_name_22
def R_X9g (l : Launch) (E : wg_Ev) (ad : Nat → Nat) (S : wg_Sh) (C : wg_C) (d k : Nat) (D : wg_M) (r0 : Int32) (D0 : wg_M) : Prop := match k with
  | 0 => wg_Ci l yX9_atom cX9_atom 2 (some .int) (d + 8) (40 * d + 300) E ad S C D [.ref (ad 55)] r0 C D0
  | 1 => wg_Ci l yX9_term cX9_term 2 (some .int) (d + 8) (40 * d + 300) E ad S C D [.ref (ad 55)] r0 C D0
  | 2 => wg_Ci l yX9_added cX9_added 4 (some .int) (d + 8) (40 * d + 300) E ad S C D [.ref (ad 55)] r0 C D0
  | 3 => wg_Ci l yX9_not cX9_not 4 (some .int) (d + 8) (40 * d + 300) E ad S C D [.ref (ad 55)] r0 C D0
  | 4 => wg_Ci l yX9_both cX9_both 3 (some .int) (d + 8) (40 * d + 300) E ad S C D [.ref (ad 55)] r0 C D0
  | 5 => wg_Ci l yX9_either cX9_either 3 (some .int) (d + 8) (40 * d + 300) E ad S C D [.ref (ad 55)] r0 C D0
  | _ => True
-- WindowsGiveModel.atom()I (('c', 55),)
def f_X9_atom_j123 (N : Nat) (rc : Nat → wg_M → Option (Int32 × wg_M)) (M : wg_M)  (x1 : Int32) : Option (Int32 × wg_M) :=
  if (M.1 55 28) = 0 then (
    if (M.1 55 24) = (1 : Int32) then (
      bd2 (f_X9_name M ) fun r15 M16 =>
      if (M16.1 55 28) = 0 then (
        bd (f_X9_next N M16 ) fun M19 =>
        some (r15, M19))
      else (
        some (r15, M16)))
    else (
      bd (f_X9_fail M ) fun M13 =>
      some (x1, M13)))
  else (
    bd (f_X9_fail M ) fun M10 =>
    some (x1, M10))
def f_X9_atom_j71 (N : Nat) (rc : Nat → wg_M → Option (Int32 × wg_M)) (M : wg_M)  (x1 : Int32) : Option (Int32 × wg_M) :=
  lt_ (wg_sM M 55 27 ((M.1 55 27) - (1 : Int32))) fun M35 =>
  if (M35.1 55 28) = 0 then (
    bd (f_X9_next N M35 ) fun M39 =>
    some (x1, M39))
  else (
    some (x1, M35))
def f_X9_atom (N : Nat) (rc : Nat → wg_M → Option (Int32 × wg_M)) (M : wg_M)  : Option (Int32 × wg_M) :=
  bd (f_X9_isSign M (45 : Int32)) fun r2 =>
  if r2 = 0 then (
    bd (f_X9_isSign M (40 : Int32)) fun r5 =>
    if r5 = 0 then (
      if (M.1 55 28) = 0 then (
        if (M.1 55 24) = (2 : Int32) then (
          lt_ ((M.2 55).toInt32) fun v21 =>
          bd (f_X9_next N M ) fun M24 =>
          some (v21, M24))
        else (
          f_X9_atom_j123 N rc M  (0 : Int32)))
      else (
        f_X9_atom_j123 N rc M  (0 : Int32)))
    else (
      bd2 (f_X9_opens N M ) fun r26 M27 =>
      if r26 = 0 then (
        some ((0 : Int32), M27))
      else (
        bd2 (rc 5 M27 ) fun r30 M31 =>
        bd (f_X9_isSign M31 (41 : Int32)) fun r33 =>
        if r33 = 0 then (
          bd (f_X9_fail M31 ) fun M41 =>
          f_X9_atom_j71 N rc M41  r30)
        else (
          f_X9_atom_j71 N rc M31  r30))))
  else (
    bd2 (f_X9_opens N M ) fun r43 M44 =>
    if r43 = 0 then (
      some ((0 : Int32), M44))
    else (
      bd2 (rc 0 M44 ) fun r47 M48 =>
      lt_ (-r47) fun v49 =>
      lt_ (wg_sM M48 55 27 ((M48.1 55 27) - (1 : Int32))) fun M51 =>
      some (v49, M51)))
abbrev G_X9_atom (d : Nat) (p : Program) (l : Launch) (e : Env) (s : State) (m : MethodId) (args : Array Value) (below : List Frame) (meth : Method) (c : Code) (E : wg_Ev) (ad : Nat → Nat) (S : wg_Sh) (r0 : Int32) (C0 : wg_C) (M0 : wg_M) (pc : Nat) (C : wg_C) (M : wg_M) (lv : List (Nat × Value)) (st : List Value) : Prop := wg_G p l e (wg_Rm (d + 9) (40 * (d + 1) + 300)) s m args below meth c (MQ below (wg_Qi E ad S r0 C0 M0) args s 0 0 (wg_A E)) 2 E ad S 0 0 pc C M lv st
set_option maxHeartbeats 4000000 in
set_option maxRecDepth 100000 in
theorem J_X9_atom_j123 {p : Program} {l : Launch} {e : Env} {s : State} {m : MethodId} {args : Array Value} {below : List Frame} {meth : Method} {c : Code} {E : wg_Ev} {ad : Nat → Nat} {S : wg_Sh} (X : wg_X p s m args meth c cX9_atom 2 RX9 E) (hr : meth.sig.returnType = (some .int)) (hS : wg_SM S) (r0 : Int32) (D0 : wg_M) (C : wg_C) (N : Nat) (d : Nat) (rc : Nat → wg_M → Option (Int32 × wg_M)) (hrc : ∀ (k : Nat) (D : wg_M) (r0 : Int32) (D0 : wg_M), rc k D  = some (r0, D0) → R_X9g l E ad S C d k D  r0 D0)  (M : wg_M)  (x1 : Int32)   (h : f_X9_atom_j123 N rc M  x1 = some (r0, D0)) : G_X9_atom d p l e s m args below meth c E ad S r0 C D0 123 C M [(0, .ref (ad 55)), (1, .int x1)] [] := by
  unfold f_X9_atom_j123 at h
  refine wg_aload_n X 0 dX9_atom_123 rfl rfl ?_
  refine wg_getM X cl9 (SMi hS 55 9 rfl) 28 (by decide) dX9_atom_124 k_910 rfl ?_
  refine wg_if_ne X 157 dX9_atom_127 (by decide) (fun c8 => ?_) (fun c8 => ?_)
  · have h := if_f c8 h
    refine wg_aload_n X 0 dX9_atom_157 rfl rfl ?_
    obtain ⟨M10, h9, h⟩ := bd_some h
    refine wg_callVv (As := []) (rest := []) X (c_X9_fail l E ad S hS C M   h9) T_yX9_fail k_1108 cl9 (SMi hS 55 9 rfl) dX9_atom_158 rfl rfl (Nat.le_of_ble_eq_true rfl) ⟨show 0 + 1 ≤ d + 9 by omega, show 8 + (1 + 11) + 0 ≤ 40 * (d + 1) + 300 by omega⟩ ⟨Nat.zero_le _, Nat.zero_le _⟩ ?_
    refine wg_iload_n X 1 dX9_atom_161 rfl rfl ?_
    exact wg_iret X ⟨(Prod.mk.inj (sm_inj h)).1, rfl, (Prod.mk.inj (sm_inj h)).2⟩ hr dX9_atom_162
  · have h := if_t c8 h
    refine wg_aload_n X 0 dX9_atom_130 rfl rfl ?_
    refine wg_getM X cl9 (SMi hS 55 9 rfl) 24 (by decide) dX9_atom_131 k_906 rfl ?_
    refine wg_iconst (v := 1) X dX9_atom_134 (by decide) ?_
    refine wg_icmp_ne X 157 dX9_atom_135 (by decide) (fun c11 => ?_) (fun c11 => ?_)
    · have h := if_f c11 h
      refine wg_aload_n X 0 dX9_atom_157 rfl rfl ?_
      obtain ⟨M13, h12, h⟩ := bd_some h
      refine wg_callVv (As := []) (rest := []) X (c_X9_fail l E ad S hS C M   h12) T_yX9_fail k_1108 cl9 (SMi hS 55 9 rfl) dX9_atom_158 rfl rfl (Nat.le_of_ble_eq_true rfl) ⟨show 0 + 1 ≤ d + 9 by omega, show 8 + (1 + 11) + 0 ≤ 40 * (d + 1) + 300 by omega⟩ ⟨Nat.zero_le _, Nat.zero_le _⟩ ?_
      refine wg_iload_n X 1 dX9_atom_161 rfl rfl ?_
      exact wg_iret X ⟨(Prod.mk.inj (sm_inj h)).1, rfl, (Prod.mk.inj (sm_inj h)).2⟩ hr dX9_atom_162
    · have h := if_t c11 h
      refine wg_aload_n X 0 dX9_atom_138 rfl rfl ?_
      obtain ⟨r15, M16, h14, h⟩ := bd2_some h
      refine wg_callVi (As := []) (rest := []) X (c_X9_name l E ad S hS C M   h14) T_yX9_name k_1144 cl9 (SMi hS 55 9 rfl) dX9_atom_139 rfl rfl (Nat.le_of_ble_eq_true rfl) ⟨show 3 + 1 ≤ d + 9 by omega, show 8 + (1 + 11) + 71 ≤ 40 * (d + 1) + 300 by omega⟩ ⟨Nat.zero_le _, Nat.zero_le _⟩ ?_
      refine wg_istore_n (lv' := [(1, .int r15), (0, .ref (ad 55))]) X dX9_atom_142 rfl rfl (by decide) rfl ?_
      refine wg_aload_n X 1 dX9_atom_143 rfl rfl ?_
      refine wg_getM X cl9 (SMi hS 55 9 rfl) 28 (by decide) dX9_atom_144 k_910 rfl ?_
      refine wg_if_ne X 161 dX9_atom_147 (by decide) (fun c17 => ?_) (fun c17 => ?_)
      · have h := if_f c17 h
        refine wg_iload_n X 0 dX9_atom_161 rfl rfl ?_
        exact wg_iret X ⟨(Prod.mk.inj (sm_inj h)).1, rfl, (Prod.mk.inj (sm_inj h)).2⟩ hr dX9_atom_162
      · have h := if_t c17 h
        refine wg_aload_n X 1 dX9_atom_150 rfl rfl ?_
        obtain ⟨M19, h18, h⟩ := bd_some h
        refine wg_callVv (As := []) (rest := []) X (c_X9_next l E ad S hS N C M16   h18) T_yX9_next k_1083 cl9 (SMi hS 55 9 rfl) dX9_atom_151 rfl rfl (Nat.le_of_ble_eq_true rfl) ⟨show 1 + 1 ≤ d + 9 by omega, show 8 + (3 + 11) + 25 ≤ 40 * (d + 1) + 300 by omega⟩ ⟨Nat.zero_le _, Nat.zero_le _⟩ ?_
        refine wg_goto X 161 dX9_atom_154 (by decide) ?_
        refine wg_iload_n X 0 dX9_atom_161 rfl rfl ?_
        exact wg_iret X ⟨(Prod.mk.inj (sm_inj h)).1, rfl, (Prod.mk.inj (sm_inj h)).2⟩ hr dX9_atom_162
set_option maxHeartbeats 4000000 in
set_option maxRecDepth 100000 in
theorem J_X9_atom_j71 {p : Program} {l : Launch} {e : Env} {s : State} {m : MethodId} {args : Array Value} {below : List Frame} {meth : Method} {c : Code} {E : wg_Ev} {ad : Nat → Nat} {S : wg_Sh} (X : wg_X p s m args meth c cX9_atom 2 RX9 E) (hr : meth.sig.returnType = (some .int)) (hS : wg_SM S) (r0 : Int32) (D0 : wg_M) (C : wg_C) (N : Nat) (d : Nat) (rc : Nat → wg_M → Option (Int32 × wg_M)) (hrc : ∀ (k : Nat) (D : wg_M) (r0 : Int32) (D0 : wg_M), rc k D  = some (r0, D0) → R_X9g l E ad S C d k D  r0 D0)  (M : wg_M)  (x1 : Int32)   (h : f_X9_atom_j71 N rc M  x1 = some (r0, D0)) : G_X9_atom d p l e s m args below meth c E ad S r0 C D0 71 C M [(0, .ref (ad 55)), (1, .int x1)] [] := by
  unfold f_X9_atom_j71 at h
  refine wg_aload_n X 0 dX9_atom_71 rfl rfl ?_
  refine wg_dup X dX9_atom_72 rfl ?_
  refine wg_getM X cl9 (SMi hS 55 9 rfl) 27 (by decide) dX9_atom_73 k_909 rfl ?_
  refine wg_iconst (v := 1) X dX9_atom_76 (by decide) ?_
  refine wg_isub X dX9_atom_77 ?_
  obtain ⟨M35, e36, h⟩ := lt_some h
  refine wg_putMe X cl9 (SMi hS 55 9 rfl) 27 (by decide) dX9_atom_78 k_909 rfl rfl rfl rfl e36 ?_
  refine wg_aload_n X 0 dX9_atom_81 rfl rfl ?_
  refine wg_getM X cl9 (SMi hS 55 9 rfl) 28 (by decide) dX9_atom_82 k_910 rfl ?_
  refine wg_if_ne X 161 dX9_atom_85 (by decide) (fun c37 => ?_) (fun c37 => ?_)
  · have h := if_f c37 h
    refine wg_iload_n X 1 dX9_atom_161 rfl rfl ?_
    exact wg_iret X ⟨(Prod.mk.inj (sm_inj h)).1, rfl, (Prod.mk.inj (sm_inj h)).2⟩ hr dX9_atom_162
  · have h := if_t c37 h
    refine wg_aload_n X 0 dX9_atom_88 rfl rfl ?_
    obtain ⟨M39, h38, h⟩ := bd_some h
    refine wg_callVv (As := []) (rest := []) X (c_X9_next l E ad S hS N C M35   h38) T_yX9_next k_1083 cl9 (SMi hS 55 9 rfl) dX9_atom_89 rfl rfl (Nat.le_of_ble_eq_true rfl) ⟨show 1 + 1 ≤ d + 9 by omega, show 8 + (3 + 11) + 25 ≤ 40 * (d + 1) + 300 by omega⟩ ⟨Nat.zero_le _, Nat.zero_le _⟩ ?_
    refine wg_goto X 161 dX9_atom_92 (by decide) ?_
    refine wg_iload_n X 1 dX9_atom_161 rfl rfl ?_
    exact wg_iret X ⟨(Prod.mk.inj (sm_inj h)).1, rfl, (Prod.mk.inj (sm_inj h)).2⟩ hr dX9_atom_162
set_option maxHeartbeats 4000000 in
set_option maxRecDepth 100000 in
theorem c_X9_atom (l : Launch) (E : wg_Ev) (ad : Nat → Nat) (S : wg_Sh) (hS : wg_SM S) (N : Nat) (d : Nat) (rc : Nat → wg_M → Option (Int32 × wg_M)) (C : wg_C) (hrc : ∀ (k : Nat) (D : wg_M) (r0 : Int32) (D0 : wg_M), rc k D  = some (r0, D0) → R_X9g l E ad S C d k D  r0 D0) (M : wg_M)   {r0 : Int32} {D0 : wg_M} (h : f_X9_atom N rc M  = some (r0, D0)) : wg_Ci l yX9_atom cX9_atom 2 (some .int) (d + 9) (40 * (d + 1) + 300) E ad S C M [.ref (ad 55)] r0 C D0 := by
  refine wg_start (own := RX9) (by decide +kernel) rfl (Nat.le_of_ble_eq_true rfl) ?_
  intro p e s m below meth c X hr hnm
  refine wg_lv (lv' := [(0, .ref (ad 55))]) rfl ?_
  unfold f_X9_atom at h
  refine wg_iconst (v := 0) X dX9_atom_0 (by decide) ?_
  refine wg_istore_n (lv' := [(1, .int (0 : Int32)), (0, .ref (ad 55))]) X dX9_atom_1 rfl rfl (by decide) rfl ?_
  refine wg_aload_n X 1 dX9_atom_2 rfl rfl ?_
  refine wg_bipush (v := 45) X dX9_atom_3 (by decide) ?_
  obtain ⟨r2, h1, h⟩ := bd_some h
  refine wg_callVi (As := [.int (45 : Int32)]) (rest := []) X (c_X9_isSign l E ad S hS C M (45 : Int32)  h1) T_yX9_isSign k_1140 cl9 (SMi hS 55 9 rfl) dX9_atom_5 rfl rfl (Nat.le_of_ble_eq_true rfl) ⟨show 0 + 1 ≤ d + 9 by omega, show 8 + (2 + 11) + 0 ≤ 40 * (d + 1) + 300 by omega⟩ ⟨Nat.zero_le _, Nat.zero_le _⟩ ?_
  refine wg_if_eq X 37 dX9_atom_8 (by decide) (fun c3 => ?_) (fun c3 => ?_)
  · have h := if_t c3 h
    refine wg_aload_n X 1 dX9_atom_37 rfl rfl ?_
    refine wg_bipush (v := 40) X dX9_atom_38 (by decide) ?_
    obtain ⟨r5, h4, h⟩ := bd_some h
    refine wg_callVi (As := [.int (40 : Int32)]) (rest := []) X (c_X9_isSign l E ad S hS C M (40 : Int32)  h4) T_yX9_isSign k_1140 cl9 (SMi hS 55 9 rfl) dX9_atom_40 rfl rfl (Nat.le_of_ble_eq_true rfl) ⟨show 0 + 1 ≤ d + 9 by omega, show 8 + (2 + 11) + 0 ≤ 40 * (d + 1) + 300 by omega⟩ ⟨Nat.zero_le _, Nat.zero_le _⟩ ?_
    refine wg_if_eq X 95 dX9_atom_43 (by decide) (fun c6 => ?_) (fun c6 => ?_)
    · have h := if_t c6 h
      refine wg_aload_n X 1 dX9_atom_95 rfl rfl ?_
      refine wg_getM X cl9 (SMi hS 55 9 rfl) 28 (by decide) dX9_atom_96 k_910 rfl ?_
      refine wg_if_ne X 123 dX9_atom_99 (by decide) (fun c7 => ?_) (fun c7 => ?_)
      · have h := if_f c7 h
        refine wg_pick [1, 0] (lv' := [(0, .ref (ad 55)), (1, .int (0 : Int32))]) rfl ?_
        exact J_X9_atom_j123 X hr hS r0 D0 C N d rc hrc  M  (0 : Int32)   h
      · have h := if_t c7 h
        refine wg_aload_n X 1 dX9_atom_102 rfl rfl ?_
        refine wg_getM X cl9 (SMi hS 55 9 rfl) 24 (by decide) dX9_atom_103 k_906 rfl ?_
        refine wg_iconst (v := 2) X dX9_atom_106 (by decide) ?_
        refine wg_icmp_ne X 123 dX9_atom_107 (by decide) (fun c20 => ?_) (fun c20 => ?_)
        · have h := if_f c20 h
          refine wg_pick [1, 0] (lv' := [(0, .ref (ad 55)), (1, .int (0 : Int32))]) rfl ?_
          exact J_X9_atom_j123 X hr hS r0 D0 C N d rc hrc  M  (0 : Int32)   h
        · have h := if_t c20 h
          refine wg_aload_n X 1 dX9_atom_110 rfl rfl ?_
          refine wg_getJ X cl9 (SMi hS 55 9 rfl) 26 (by decide) dX9_atom_111 k_908 rfl ?_
          refine wg_l2i X dX9_atom_114 ?_
          obtain ⟨v21, e22, h⟩ := lt_some h
          refine wg_istore_n (lv' := [(1, .int v21), (0, .ref (ad 55))]) X dX9_atom_115 rfl e22 (by decide) rfl ?_
          refine wg_aload_n X 1 dX9_atom_116 rfl rfl ?_
          obtain ⟨M24, h23, h⟩ := bd_some h
          refine wg_callVv (As := []) (rest := []) X (c_X9_next l E ad S hS N C M   h23) T_yX9_next k_1083 cl9 (SMi hS 55 9 rfl) dX9_atom_117 rfl rfl (Nat.le_of_ble_eq_true rfl) ⟨show 1 + 1 ≤ d + 9 by omega, show 8 + (3 + 11) + 25 ≤ 40 * (d + 1) + 300 by omega⟩ ⟨Nat.zero_le _, Nat.zero_le _⟩ ?_
          refine wg_goto X 161 dX9_atom_120 (by decide) ?_
          refine wg_iload_n X 0 dX9_atom_161 rfl rfl ?_
          exact wg_iret X ⟨(Prod.mk.inj (sm_inj h)).1, rfl, (Prod.mk.inj (sm_inj h)).2⟩ hr dX9_atom_162
    · have h := if_f c6 h
      refine wg_aload_n X 1 dX9_atom_46 rfl rfl ?_
      obtain ⟨r26, M27, h25, h⟩ := bd2_some h
      refine wg_callVi (As := []) (rest := []) X (c_X9_opens l E ad S hS N C M   h25) T_yX9_opens k_1124 cl9 (SMi hS 55 9 rfl) dX9_atom_47 rfl rfl (Nat.le_of_ble_eq_true rfl) ⟨show 2 + 1 ≤ d + 9 by omega, show 8 + (1 + 11) + 47 ≤ 40 * (d + 1) + 300 by omega⟩ ⟨Nat.zero_le _, Nat.zero_le _⟩ ?_
      refine wg_if_eq X 161 dX9_atom_50 (by decide) (fun c28 => ?_) (fun c28 => ?_)
      · have h := if_t c28 h
        refine wg_iload_n X 0 dX9_atom_161 rfl rfl ?_
        exact wg_iret X ⟨(Prod.mk.inj (sm_inj h)).1, rfl, (Prod.mk.inj (sm_inj h)).2⟩ hr dX9_atom_162
      · have h := if_f c28 h
        refine wg_aload_n X 1 dX9_atom_53 rfl rfl ?_
        obtain ⟨r30, M31, h29, h⟩ := bd2_some h
        refine wg_callVi (As := []) (rest := []) X (show wg_Ci l yX9_either cX9_either 3 (some .int) (d + 8) (40 * d + 300) E ad S C M27 [.ref (ad 55)] r30 C M31 from hrc 5 M27  r30 M31 h29) T_yX9_either k_1112 cl9 (SMi hS 55 9 rfl) dX9_atom_54 rfl rfl (Nat.le_of_ble_eq_true rfl) ⟨show (d + 8) + 1 ≤ d + 9 by omega, show 8 + (3 + 11) + (40 * d + 300) ≤ 40 * (d + 1) + 300 by omega⟩ ⟨Nat.zero_le _, Nat.zero_le _⟩ ?_
        refine wg_istore_n (lv' := [(1, .int r30), (0, .ref (ad 55))]) X dX9_atom_57 rfl rfl (by decide) rfl ?_
        refine wg_aload_n X 1 dX9_atom_58 rfl rfl ?_
        refine wg_bipush (v := 41) X dX9_atom_59 (by decide) ?_
        obtain ⟨r33, h32, h⟩ := bd_some h
        refine wg_callVi (As := [.int (41 : Int32)]) (rest := []) X (c_X9_isSign l E ad S hS C M31 (41 : Int32)  h32) T_yX9_isSign k_1140 cl9 (SMi hS 55 9 rfl) dX9_atom_61 rfl rfl (Nat.le_of_ble_eq_true rfl) ⟨show 0 + 1 ≤ d + 9 by omega, show 8 + (2 + 11) + 0 ≤ 40 * (d + 1) + 300 by omega⟩ ⟨Nat.zero_le _, Nat.zero_le _⟩ ?_
        refine wg_if_ne X 71 dX9_atom_64 (by decide) (fun c34 => ?_) (fun c34 => ?_)
        · have h := if_f c34 h
          refine wg_pick [1, 0] (lv' := [(0, .ref (ad 55)), (1, .int r30)]) rfl ?_
          exact J_X9_atom_j71 X hr hS r0 D0 C N d rc hrc  M31  r30   h
        · have h := if_t c34 h
          refine wg_aload_n X 1 dX9_atom_67 rfl rfl ?_
          obtain ⟨M41, h40, h⟩ := bd_some h
          refine wg_callVv (As := []) (rest := []) X (c_X9_fail l E ad S hS C M31   h40) T_yX9_fail k_1108 cl9 (SMi hS 55 9 rfl) dX9_atom_68 rfl rfl (Nat.le_of_ble_eq_true rfl) ⟨show 0 + 1 ≤ d + 9 by omega, show 8 + (1 + 11) + 0 ≤ 40 * (d + 1) + 300 by omega⟩ ⟨Nat.zero_le _, Nat.zero_le _⟩ ?_
          refine wg_pick [1, 0] (lv' := [(0, .ref (ad 55)), (1, .int r30)]) rfl ?_
          exact J_X9_atom_j71 X hr hS r0 D0 C N d rc hrc  M41  r30   h
  · have h := if_f c3 h
    refine wg_aload_n X 1 dX9_atom_11 rfl rfl ?_
    obtain ⟨r43, M44, h42, h⟩ := bd2_some h
    refine wg_callVi (As := []) (rest := []) X (c_X9_opens l E ad S hS N C M   h42) T_yX9_opens k_1124 cl9 (SMi hS 55 9 rfl) dX9_atom_12 rfl rfl (Nat.le_of_ble_eq_true rfl) ⟨show 2 + 1 ≤ d + 9 by omega, show 8 + (1 + 11) + 47 ≤ 40 * (d + 1) + 300 by omega⟩ ⟨Nat.zero_le _, Nat.zero_le _⟩ ?_
    refine wg_if_eq X 161 dX9_atom_15 (by decide) (fun c45 => ?_) (fun c45 => ?_)
    · have h := if_t c45 h
      refine wg_iload_n X 0 dX9_atom_161 rfl rfl ?_
      exact wg_iret X ⟨(Prod.mk.inj (sm_inj h)).1, rfl, (Prod.mk.inj (sm_inj h)).2⟩ hr dX9_atom_162
    · have h := if_f c45 h
      refine wg_aload_n X 1 dX9_atom_18 rfl rfl ?_
      obtain ⟨r47, M48, h46, h⟩ := bd2_some h
      refine wg_callVi (As := []) (rest := []) X (show wg_Ci l yX9_atom cX9_atom 2 (some .int) (d + 8) (40 * d + 300) E ad S C M44 [.ref (ad 55)] r47 C M48 from hrc 0 M44  r47 M48 h46) T_yX9_atom k_1136 cl9 (SMi hS 55 9 rfl) dX9_atom_19 rfl rfl (Nat.le_of_ble_eq_true rfl) ⟨show (d + 8) + 1 ≤ d + 9 by omega, show 8 + (2 + 11) + (40 * d + 300) ≤ 40 * (d + 1) + 300 by omega⟩ ⟨Nat.zero_le _, Nat.zero_le _⟩ ?_
      refine wg_ineg X dX9_atom_22 ?_
      obtain ⟨v49, e50, h⟩ := lt_some h
      refine wg_istore_n (lv' := [(1, .int v49), (0, .ref (ad 55))]) X dX9_atom_23 rfl e50 (by decide) rfl ?_
      refine wg_aload_n X 1 dX9_atom_24 rfl rfl ?_
      refine wg_dup X dX9_atom_25 rfl ?_
      refine wg_getM X cl9 (SMi hS 55 9 rfl) 27 (by decide) dX9_atom_26 k_909 rfl ?_
      refine wg_iconst (v := 1) X dX9_atom_29 (by decide) ?_
      refine wg_isub X dX9_atom_30 ?_
      obtain ⟨M51, e52, h⟩ := lt_some h
      refine wg_putMe X cl9 (SMi hS 55 9 rfl) 27 (by decide) dX9_atom_31 k_909 rfl rfl rfl rfl e52 ?_
      refine wg_goto X 161 dX9_atom_34 (by decide) ?_
      refine wg_iload_n X 0 dX9_atom_161 rfl rfl ?_
      exact wg_iret X ⟨(Prod.mk.inj (sm_inj h)).1, rfl, (Prod.mk.inj (sm_inj h)).2⟩ hr dX9_atom_162
-- WindowsGiveModel.term()I (('c', 55),)
def f_X9_term_l5 (N : Nat) (rc : Nat → wg_M → Option (Int32 × wg_M))   (M : wg_M) (x1 : Int32) : Option ((wg_M × Int32) ⊕ (wg_M × Int32)) :=
  bd (f_X9_isSign M (42 : Int32)) fun r5 =>
  if r5 = 0 then (
    some (.inr (M, x1)))
  else (
    bd (f_X9_next N M ) fun M8 =>
    bd2 (rc 0 M8 ) fun r10 M11 =>
    lt_ (x1 * r10) fun v12 =>
    some (.inl (M11, v12)))
def f_X9_term (N : Nat) (rc : Nat → wg_M → Option (Int32 × wg_M)) (M : wg_M)  : Option (Int32 × wg_M) :=
  bd2 (rc 0 M ) fun r2 M3 =>
  bd2 (lp (fun o => f_X9_term_l5 N rc   o.1 o.2) N (M3, r2)) fun M14 v15 =>
  some (v15, M14)
abbrev G_X9_term (d : Nat) (p : Program) (l : Launch) (e : Env) (s : State) (m : MethodId) (args : Array Value) (below : List Frame) (meth : Method) (c : Code) (E : wg_Ev) (ad : Nat → Nat) (S : wg_Sh) (r0 : Int32) (C0 : wg_C) (M0 : wg_M) (pc : Nat) (C : wg_C) (M : wg_M) (lv : List (Nat × Value)) (st : List Value) : Prop := wg_G p l e (wg_Rm (d + 9) (40 * (d + 1) + 300)) s m args below meth c (MQ below (wg_Qi E ad S r0 C0 M0) args s 0 0 (wg_A E)) 2 E ad S 0 0 pc C M lv st
set_option maxHeartbeats 4000000 in
set_option maxRecDepth 100000 in
theorem L_X9_term_l5 {p : Program} {l : Launch} {e : Env} {s : State} {m : MethodId} {args : Array Value} {below : List Frame} {meth : Method} {c : Code} {E : wg_Ev} {ad : Nat → Nat} {S : wg_Sh} (X : wg_X p s m args meth c cX9_term 2 RX9 E) (hr : meth.sig.returnType = (some .int)) (hS : wg_SM S) (r0 : Int32) (D0 : wg_M) (C : wg_C) (N : Nat) (d : Nat) (rc : Nat → wg_M → Option (Int32 × wg_M)) (hrc : ∀ (k : Nat) (D : wg_M) (r0 : Int32) (D0 : wg_M), rc k D  = some (r0, D0) → R_X9g l E ad S C d k D  r0 D0)     : ∀ (n : Nat) (M : wg_M) (x1 : Int32) (o : (wg_M × Int32)), lp (fun o => f_X9_term_l5 N rc   o.1 o.2) n (M, x1) = some o → (∀ (Dy : wg_M) (y1 : Int32), o = (Dy, y1) → G_X9_term d p l e s m args below meth c E ad S r0 C D0 28 C Dy [(0, .ref (ad 55)), (1, .int y1)] []) → G_X9_term d p l e s m args below meth c E ad S r0 C D0 5 C M [(0, .ref (ad 55)), (1, .int x1)] [] := by
  intro n
  induction n with
  | zero => exact fun _ _ o h => (lp_zero h).elim
  | succ n ih =>
    intro M x1 o h K
    obtain ⟨o1, hb, h2⟩ := lp_some h
    replace hb : f_X9_term_l5 N rc   M x1 = some o1 := hb
    clear h
    have Kc : ∀ (Dy : wg_M) (y1 : Int32), o1 = Sum.inl (Dy, y1) → G_X9_term d p l e s m args below meth c E ad S r0 C D0 5 C Dy [(0, .ref (ad 55)), (1, .int y1)] [] := fun Dy y1 e1 => by
      subst e1
      exact ih Dy y1 o h2 K
    have Ke : ∀ (Dy : wg_M) (y1 : Int32), o1 = Sum.inr ((Dy, y1)) → G_X9_term d p l e s m args below meth c E ad S r0 C D0 28 C Dy [(0, .ref (ad 55)), (1, .int y1)] [] := fun Dy y1 e1 => by
      subst e1
      exact K Dy y1 (sm_inj (α := (wg_M × Int32)) h2).symm
    clear ih K h2
    unfold f_X9_term_l5 at hb
    have h := hb
    clear hb
    refine wg_aload_n X 0 dX9_term_5 rfl rfl ?_
    refine wg_bipush (v := 42) X dX9_term_6 (by decide) ?_
    obtain ⟨r5, h4, h⟩ := bd_some h
    refine wg_callVi (As := [.int (42 : Int32)]) (rest := []) X (c_X9_isSign l E ad S hS C M (42 : Int32)  h4) T_yX9_isSign k_1140 cl9 (SMi hS 55 9 rfl) dX9_term_8 rfl rfl (Nat.le_of_ble_eq_true rfl) ⟨show 0 + 1 ≤ d + 9 by omega, show 8 + (2 + 11) + 0 ≤ 40 * (d + 1) + 300 by omega⟩ ⟨Nat.zero_le _, Nat.zero_le _⟩ ?_
    refine wg_if_eq X 28 dX9_term_11 (by decide) (fun c6 => ?_) (fun c6 => ?_)
    · have h := if_t c6 h
      exact Ke M x1 (sm_inj h).symm
    · have h := if_f c6 h
      refine wg_aload_n X 0 dX9_term_14 rfl rfl ?_
      obtain ⟨M8, h7, h⟩ := bd_some h
      refine wg_callVv (As := []) (rest := []) X (c_X9_next l E ad S hS N C M   h7) T_yX9_next k_1083 cl9 (SMi hS 55 9 rfl) dX9_term_15 rfl rfl (Nat.le_of_ble_eq_true rfl) ⟨show 1 + 1 ≤ d + 9 by omega, show 8 + (3 + 11) + 25 ≤ 40 * (d + 1) + 300 by omega⟩ ⟨Nat.zero_le _, Nat.zero_le _⟩ ?_
      refine wg_iload_n X 1 dX9_term_18 rfl rfl ?_
      refine wg_aload_n X 0 dX9_term_19 rfl rfl ?_
      obtain ⟨r10, M11, h9, h⟩ := bd2_some h
      refine wg_callVi (As := []) (rest := [.int x1]) X (show wg_Ci l yX9_atom cX9_atom 2 (some .int) (d + 8) (40 * d + 300) E ad S C M8 [.ref (ad 55)] r10 C M11 from hrc 0 M8  r10 M11 h9) T_yX9_atom k_1136 cl9 (SMi hS 55 9 rfl) dX9_term_20 rfl rfl (Nat.le_of_ble_eq_true rfl) ⟨show (d + 8) + 1 ≤ d + 9 by omega, show 8 + (2 + 11) + (40 * d + 300) ≤ 40 * (d + 1) + 300 by omega⟩ ⟨Nat.zero_le _, Nat.zero_le _⟩ ?_
      refine wg_imul X dX9_term_23 ?_
      obtain ⟨v12, e13, h⟩ := lt_some h
      refine wg_istore_n (lv' := [(1, .int v12), (0, .ref (ad 55))]) X dX9_term_24 rfl e13 (by decide) rfl ?_
      refine wg_goto X 5 dX9_term_25 (by decide) ?_
      refine wg_pick [1, 0] (lv' := [(0, .ref (ad 55)), (1, .int v12)]) rfl ?_
      exact Kc M11 v12 (sm_inj h).symm
set_option maxHeartbeats 4000000 in
set_option maxRecDepth 100000 in
theorem c_X9_term (l : Launch) (E : wg_Ev) (ad : Nat → Nat) (S : wg_Sh) (hS : wg_SM S) (N : Nat) (d : Nat) (rc : Nat → wg_M → Option (Int32 × wg_M)) (C : wg_C) (hrc : ∀ (k : Nat) (D : wg_M) (r0 : Int32) (D0 : wg_M), rc k D  = some (r0, D0) → R_X9g l E ad S C d k D  r0 D0) (M : wg_M)   {r0 : Int32} {D0 : wg_M} (h : f_X9_term N rc M  = some (r0, D0)) : wg_Ci l yX9_term cX9_term 2 (some .int) (d + 9) (40 * (d + 1) + 300) E ad S C M [.ref (ad 55)] r0 C D0 := by
  refine wg_start (own := RX9) (by decide +kernel) rfl (Nat.le_of_ble_eq_true rfl) ?_
  intro p e s m below meth c X hr hnm
  refine wg_lv (lv' := [(0, .ref (ad 55))]) rfl ?_
  unfold f_X9_term at h
  refine wg_aload_n X 0 dX9_term_0 rfl rfl ?_
  obtain ⟨r2, M3, h1, h⟩ := bd2_some h
  refine wg_callVi (As := []) (rest := []) X (show wg_Ci l yX9_atom cX9_atom 2 (some .int) (d + 8) (40 * d + 300) E ad S C M [.ref (ad 55)] r2 C M3 from hrc 0 M  r2 M3 h1) T_yX9_atom k_1136 cl9 (SMi hS 55 9 rfl) dX9_term_1 rfl rfl (Nat.le_of_ble_eq_true rfl) ⟨show (d + 8) + 1 ≤ d + 9 by omega, show 8 + (2 + 11) + (40 * d + 300) ≤ 40 * (d + 1) + 300 by omega⟩ ⟨Nat.zero_le _, Nat.zero_le _⟩ ?_
  refine wg_istore_n (lv' := [(1, .int r2), (0, .ref (ad 55))]) X dX9_term_4 rfl rfl (by decide) rfl ?_
  obtain ⟨o16, h17, h⟩ := bd2_o h
  refine wg_pick [1, 0] (lv' := [(0, .ref (ad 55)), (1, .int r2)]) rfl ?_
  refine L_X9_term_l5 X hr hS r0 D0 C N d rc hrc     N M3 r2 o16 h17 (fun M14 v15 e19 => ?_)
  · subst o16
    replace h := bd2_in h
    refine wg_iload_n X 1 dX9_term_28 rfl rfl ?_
    exact wg_iret X ⟨(Prod.mk.inj (sm_inj h)).1, rfl, (Prod.mk.inj (sm_inj h)).2⟩ hr dX9_term_29
-- WindowsGiveModel.added()I (('c', 55),)
def f_X9_added_j39l5 (N : Nat) (rc : Nat → wg_M → Option (Int32 × wg_M)) (M : wg_M)  (x1 : Int32) (s0 : Int32) : Option ((wg_M × Int32) ⊕ (wg_M × Int32)) :=
  bd (f_X9_next N M ) fun M9 =>
  bd2 (rc 1 M9 ) fun r11 M12 =>
  if s0 = 0 then (
    lt_ (x1 - r11) fun v14 =>
    some (.inl (M12, v14)))
  else (
    lt_ (x1 + r11) fun v16 =>
    some (.inl (M12, v16)))
def f_X9_added_j23l5 (N : Nat) (rc : Nat → wg_M → Option (Int32 × wg_M)) (M : wg_M)  (x1 : Int32) : Option ((wg_M × Int32) ⊕ (wg_M × Int32)) :=
  if (lg_cmp (M.2 55) (43 : Int64)) = 0 then (
    f_X9_added_j39l5 N rc M  x1 (1 : Int32))
  else (
    f_X9_added_j39l5 N rc M  x1 (0 : Int32))
def f_X9_added_l5 (N : Nat) (rc : Nat → wg_M → Option (Int32 × wg_M))   (M : wg_M) (x1 : Int32) : Option ((wg_M × Int32) ⊕ (wg_M × Int32)) :=
  bd (f_X9_isSign M (43 : Int32)) fun r5 =>
  if r5 = 0 then (
    bd (f_X9_isSign M (45 : Int32)) fun r19 =>
    if r19 = 0 then (
      some (.inr (M, x1)))
    else (
      f_X9_added_j23l5 N rc M  x1))
  else (
    f_X9_added_j23l5 N rc M  x1)
def f_X9_added (N : Nat) (rc : Nat → wg_M → Option (Int32 × wg_M)) (M : wg_M)  : Option (Int32 × wg_M) :=
  bd2 (rc 1 M ) fun r2 M3 =>
  bd2 (lp (fun o => f_X9_added_l5 N rc   o.1 o.2) N (M3, r2)) fun M21 v22 =>
  some (v22, M21)
abbrev G_X9_added (d : Nat) (p : Program) (l : Launch) (e : Env) (s : State) (m : MethodId) (args : Array Value) (below : List Frame) (meth : Method) (c : Code) (E : wg_Ev) (ad : Nat → Nat) (S : wg_Sh) (r0 : Int32) (C0 : wg_C) (M0 : wg_M) (pc : Nat) (C : wg_C) (M : wg_M) (lv : List (Nat × Value)) (st : List Value) : Prop := wg_G p l e (wg_Rm (d + 9) (40 * (d + 1) + 300)) s m args below meth c (MQ below (wg_Qi E ad S r0 C0 M0) args s 0 0 (wg_A E)) 4 E ad S 0 0 pc C M lv st
set_option maxHeartbeats 4000000 in
set_option maxRecDepth 100000 in
theorem J_X9_added_j39l5 {p : Program} {l : Launch} {e : Env} {s : State} {m : MethodId} {args : Array Value} {below : List Frame} {meth : Method} {c : Code} {E : wg_Ev} {ad : Nat → Nat} {S : wg_Sh} (X : wg_X p s m args meth c cX9_added 4 RX9 E) (hr : meth.sig.returnType = (some .int)) (hS : wg_SM S) (r0 : Int32) (D0 : wg_M) (C : wg_C) (N : Nat) (d : Nat) (rc : Nat → wg_M → Option (Int32 × wg_M)) (hrc : ∀ (k : Nat) (D : wg_M) (r0 : Int32) (D0 : wg_M), rc k D  = some (r0, D0) → R_X9g l E ad S C d k D  r0 D0)  (M : wg_M)  (x1 : Int32) (s0 : Int32)  (y : ((wg_M × Int32) ⊕ (wg_M × Int32))) (Kc : ∀ (Dy : wg_M) (y1 : Int32), y = Sum.inl (Dy, y1) → G_X9_added d p l e s m args below meth c E ad S r0 C D0 5 C Dy [(0, .ref (ad 55)), (1, .int y1)] []) (Ke : ∀ (Dy : wg_M) (y1 : Int32), y = Sum.inr ((Dy, y1)) → G_X9_added d p l e s m args below meth c E ad S r0 C D0 66 C Dy [(0, .ref (ad 55)), (1, .int y1)] []) (h : f_X9_added_j39l5 N rc M  x1 s0 = some y) : G_X9_added d p l e s m args below meth c E ad S r0 C D0 39 C M [(0, .ref (ad 55)), (1, .int x1)] [.int s0] := by
  unfold f_X9_added_j39l5 at h
  refine wg_istore_n (lv' := [(2, .int s0), (0, .ref (ad 55)), (1, .int x1)]) X dX9_added_39 rfl rfl (by decide) rfl ?_
  refine wg_aload_n X 1 dX9_added_40 rfl rfl ?_
  obtain ⟨M9, h8, h⟩ := bd_some h
  refine wg_callVv (As := []) (rest := []) X (c_X9_next l E ad S hS N C M   h8) T_yX9_next k_1083 cl9 (SMi hS 55 9 rfl) dX9_added_41 rfl rfl (Nat.le_of_ble_eq_true rfl) ⟨show 1 + 1 ≤ d + 9 by omega, show 8 + (3 + 11) + 25 ≤ 40 * (d + 1) + 300 by omega⟩ ⟨Nat.zero_le _, Nat.zero_le _⟩ ?_
  refine wg_aload_n X 1 dX9_added_44 rfl rfl ?_
  obtain ⟨r11, M12, h10, h⟩ := bd2_some h
  refine wg_callVi (As := []) (rest := []) X (show wg_Ci l yX9_term cX9_term 2 (some .int) (d + 8) (40 * d + 300) E ad S C M9 [.ref (ad 55)] r11 C M12 from hrc 1 M9  r11 M12 h10) T_yX9_term k_1132 cl9 (SMi hS 55 9 rfl) dX9_added_45 rfl rfl (Nat.le_of_ble_eq_true rfl) ⟨show (d + 8) + 1 ≤ d + 9 by omega, show 8 + (2 + 11) + (40 * d + 300) ≤ 40 * (d + 1) + 300 by omega⟩ ⟨Nat.zero_le _, Nat.zero_le _⟩ ?_
  refine wg_istore_n (lv' := [(3, .int r11), (2, .int s0), (0, .ref (ad 55)), (1, .int x1)]) X dX9_added_48 rfl rfl (by decide) rfl ?_
  refine wg_iload_n X 1 dX9_added_49 rfl rfl ?_
  refine wg_if_eq X 59 dX9_added_50 (by decide) (fun c13 => ?_) (fun c13 => ?_)
  · have h := if_t c13 h
    refine wg_iload_n X 3 dX9_added_59 rfl rfl ?_
    refine wg_iload_n X 0 dX9_added_60 rfl rfl ?_
    refine wg_isub X dX9_added_61 ?_
    obtain ⟨v14, e15, h⟩ := lt_some h
    refine wg_istore_n (lv' := [(1, .int v14), (3, .int r11), (2, .int s0), (0, .ref (ad 55))]) X dX9_added_62 rfl e15 (by decide) rfl ?_
    refine wg_goto X 5 dX9_added_63 (by decide) ?_
    refine wg_pick [3, 0] (lv' := [(0, .ref (ad 55)), (1, .int v14)]) rfl ?_
    exact Kc M12 v14 (sm_inj h).symm
  · have h := if_f c13 h
    refine wg_iload_n X 3 dX9_added_53 rfl rfl ?_
    refine wg_iload_n X 0 dX9_added_54 rfl rfl ?_
    refine wg_iadd X dX9_added_55 ?_
    refine wg_goto X 62 dX9_added_56 (by decide) ?_
    obtain ⟨v16, e17, h⟩ := lt_some h
    refine wg_istore_n (lv' := [(1, .int v16), (3, .int r11), (2, .int s0), (0, .ref (ad 55))]) X dX9_added_62 rfl e17 (by decide) rfl ?_
    refine wg_goto X 5 dX9_added_63 (by decide) ?_
    refine wg_pick [3, 0] (lv' := [(0, .ref (ad 55)), (1, .int v16)]) rfl ?_
    exact Kc M12 v16 (sm_inj h).symm
set_option maxHeartbeats 4000000 in
set_option maxRecDepth 100000 in
theorem J_X9_added_j23l5 {p : Program} {l : Launch} {e : Env} {s : State} {m : MethodId} {args : Array Value} {below : List Frame} {meth : Method} {c : Code} {E : wg_Ev} {ad : Nat → Nat} {S : wg_Sh} (X : wg_X p s m args meth c cX9_added 4 RX9 E) (hr : meth.sig.returnType = (some .int)) (hS : wg_SM S) (r0 : Int32) (D0 : wg_M) (C : wg_C) (N : Nat) (d : Nat) (rc : Nat → wg_M → Option (Int32 × wg_M)) (hrc : ∀ (k : Nat) (D : wg_M) (r0 : Int32) (D0 : wg_M), rc k D  = some (r0, D0) → R_X9g l E ad S C d k D  r0 D0)  (M : wg_M)  (x1 : Int32)  (y : ((wg_M × Int32) ⊕ (wg_M × Int32))) (Kc : ∀ (Dy : wg_M) (y1 : Int32), y = Sum.inl (Dy, y1) → G_X9_added d p l e s m args below meth c E ad S r0 C D0 5 C Dy [(0, .ref (ad 55)), (1, .int y1)] []) (Ke : ∀ (Dy : wg_M) (y1 : Int32), y = Sum.inr ((Dy, y1)) → G_X9_added d p l e s m args below meth c E ad S r0 C D0 66 C Dy [(0, .ref (ad 55)), (1, .int y1)] []) (h : f_X9_added_j23l5 N rc M  x1 = some y) : G_X9_added d p l e s m args below meth c E ad S r0 C D0 23 C M [(0, .ref (ad 55)), (1, .int x1)] [] := by
  unfold f_X9_added_j23l5 at h
  refine wg_aload_n X 0 dX9_added_23 rfl rfl ?_
  refine wg_getJ X cl9 (SMi hS 55 9 rfl) 26 (by decide) dX9_added_24 k_908 rfl ?_
  refine wg_ldc2 (v := 43) X dX9_added_27 k_1148 ?_
  refine wg_lcmp X dX9_added_30 ?_
  refine wg_if_ne X 38 dX9_added_31 (by decide) (fun c7 => ?_) (fun c7 => ?_)
  · have h := if_f c7 h
    refine wg_iconst (v := 0) X dX9_added_38 (by decide) ?_
    exact J_X9_added_j39l5 X hr hS r0 D0 C N d rc hrc  M  x1 (0 : Int32)  _ Kc Ke h
  · have h := if_t c7 h
    refine wg_iconst (v := 1) X dX9_added_34 (by decide) ?_
    refine wg_goto X 39 dX9_added_35 (by decide) ?_
    exact J_X9_added_j39l5 X hr hS r0 D0 C N d rc hrc  M  x1 (1 : Int32)  _ Kc Ke h
set_option maxHeartbeats 4000000 in
set_option maxRecDepth 100000 in
theorem L_X9_added_l5 {p : Program} {l : Launch} {e : Env} {s : State} {m : MethodId} {args : Array Value} {below : List Frame} {meth : Method} {c : Code} {E : wg_Ev} {ad : Nat → Nat} {S : wg_Sh} (X : wg_X p s m args meth c cX9_added 4 RX9 E) (hr : meth.sig.returnType = (some .int)) (hS : wg_SM S) (r0 : Int32) (D0 : wg_M) (C : wg_C) (N : Nat) (d : Nat) (rc : Nat → wg_M → Option (Int32 × wg_M)) (hrc : ∀ (k : Nat) (D : wg_M) (r0 : Int32) (D0 : wg_M), rc k D  = some (r0, D0) → R_X9g l E ad S C d k D  r0 D0)     : ∀ (n : Nat) (M : wg_M) (x1 : Int32) (o : (wg_M × Int32)), lp (fun o => f_X9_added_l5 N rc   o.1 o.2) n (M, x1) = some o → (∀ (Dy : wg_M) (y1 : Int32), o = (Dy, y1) → G_X9_added d p l e s m args below meth c E ad S r0 C D0 66 C Dy [(0, .ref (ad 55)), (1, .int y1)] []) → G_X9_added d p l e s m args below meth c E ad S r0 C D0 5 C M [(0, .ref (ad 55)), (1, .int x1)] [] := by
  intro n
  induction n with
  | zero => exact fun _ _ o h => (lp_zero h).elim
  | succ n ih =>
    intro M x1 o h K
    obtain ⟨o1, hb, h2⟩ := lp_some h
    replace hb : f_X9_added_l5 N rc   M x1 = some o1 := hb
    clear h
    have Kc : ∀ (Dy : wg_M) (y1 : Int32), o1 = Sum.inl (Dy, y1) → G_X9_added d p l e s m args below meth c E ad S r0 C D0 5 C Dy [(0, .ref (ad 55)), (1, .int y1)] [] := fun Dy y1 e1 => by
      subst e1
      exact ih Dy y1 o h2 K
    have Ke : ∀ (Dy : wg_M) (y1 : Int32), o1 = Sum.inr ((Dy, y1)) → G_X9_added d p l e s m args below meth c E ad S r0 C D0 66 C Dy [(0, .ref (ad 55)), (1, .int y1)] [] := fun Dy y1 e1 => by
      subst e1
      exact K Dy y1 (sm_inj (α := (wg_M × Int32)) h2).symm
    clear ih K h2
    unfold f_X9_added_l5 at hb
    have h := hb
    clear hb
    refine wg_aload_n X 0 dX9_added_5 rfl rfl ?_
    refine wg_bipush (v := 43) X dX9_added_6 (by decide) ?_
    obtain ⟨r5, h4, h⟩ := bd_some h
    refine wg_callVi (As := [.int (43 : Int32)]) (rest := []) X (c_X9_isSign l E ad S hS C M (43 : Int32)  h4) T_yX9_isSign k_1140 cl9 (SMi hS 55 9 rfl) dX9_added_8 rfl rfl (Nat.le_of_ble_eq_true rfl) ⟨show 0 + 1 ≤ d + 9 by omega, show 8 + (2 + 11) + 0 ≤ 40 * (d + 1) + 300 by omega⟩ ⟨Nat.zero_le _, Nat.zero_le _⟩ ?_
    refine wg_if_ne X 23 dX9_added_11 (by decide) (fun c6 => ?_) (fun c6 => ?_)
    · have h := if_f c6 h
      exact J_X9_added_j23l5 X hr hS r0 D0 C N d rc hrc  M  x1  _ Kc Ke h
    · have h := if_t c6 h
      refine wg_aload_n X 0 dX9_added_14 rfl rfl ?_
      refine wg_bipush (v := 45) X dX9_added_15 (by decide) ?_
      obtain ⟨r19, h18, h⟩ := bd_some h
      refine wg_callVi (As := [.int (45 : Int32)]) (rest := []) X (c_X9_isSign l E ad S hS C M (45 : Int32)  h18) T_yX9_isSign k_1140 cl9 (SMi hS 55 9 rfl) dX9_added_17 rfl rfl (Nat.le_of_ble_eq_true rfl) ⟨show 0 + 1 ≤ d + 9 by omega, show 8 + (2 + 11) + 0 ≤ 40 * (d + 1) + 300 by omega⟩ ⟨Nat.zero_le _, Nat.zero_le _⟩ ?_
      refine wg_if_eq X 66 dX9_added_20 (by decide) (fun c20 => ?_) (fun c20 => ?_)
      · have h := if_t c20 h
        exact Ke M x1 (sm_inj h).symm
      · have h := if_f c20 h
        exact J_X9_added_j23l5 X hr hS r0 D0 C N d rc hrc  M  x1  _ Kc Ke h
set_option maxHeartbeats 4000000 in
set_option maxRecDepth 100000 in
theorem c_X9_added (l : Launch) (E : wg_Ev) (ad : Nat → Nat) (S : wg_Sh) (hS : wg_SM S) (N : Nat) (d : Nat) (rc : Nat → wg_M → Option (Int32 × wg_M)) (C : wg_C) (hrc : ∀ (k : Nat) (D : wg_M) (r0 : Int32) (D0 : wg_M), rc k D  = some (r0, D0) → R_X9g l E ad S C d k D  r0 D0) (M : wg_M)   {r0 : Int32} {D0 : wg_M} (h : f_X9_added N rc M  = some (r0, D0)) : wg_Ci l yX9_added cX9_added 4 (some .int) (d + 9) (40 * (d + 1) + 300) E ad S C M [.ref (ad 55)] r0 C D0 := by
  refine wg_start (own := RX9) (by decide +kernel) rfl (Nat.le_of_ble_eq_true rfl) ?_
  intro p e s m below meth c X hr hnm
  refine wg_lv (lv' := [(0, .ref (ad 55))]) rfl ?_
  unfold f_X9_added at h
  refine wg_aload_n X 0 dX9_added_0 rfl rfl ?_
  obtain ⟨r2, M3, h1, h⟩ := bd2_some h
  refine wg_callVi (As := []) (rest := []) X (show wg_Ci l yX9_term cX9_term 2 (some .int) (d + 8) (40 * d + 300) E ad S C M [.ref (ad 55)] r2 C M3 from hrc 1 M  r2 M3 h1) T_yX9_term k_1132 cl9 (SMi hS 55 9 rfl) dX9_added_1 rfl rfl (Nat.le_of_ble_eq_true rfl) ⟨show (d + 8) + 1 ≤ d + 9 by omega, show 8 + (2 + 11) + (40 * d + 300) ≤ 40 * (d + 1) + 300 by omega⟩ ⟨Nat.zero_le _, Nat.zero_le _⟩ ?_
  refine wg_istore_n (lv' := [(1, .int r2), (0, .ref (ad 55))]) X dX9_added_4 rfl rfl (by decide) rfl ?_
  obtain ⟨o23, h24, h⟩ := bd2_o h
  refine wg_pick [1, 0] (lv' := [(0, .ref (ad 55)), (1, .int r2)]) rfl ?_
  refine L_X9_added_l5 X hr hS r0 D0 C N d rc hrc     N M3 r2 o23 h24 (fun M21 v22 e26 => ?_)
  · subst o23
    replace h := bd2_in h
    refine wg_iload_n X 1 dX9_added_66 rfl rfl ?_
    exact wg_iret X ⟨(Prod.mk.inj (sm_inj h)).1, rfl, (Prod.mk.inj (sm_inj h)).2⟩ hr dX9_added_67
-- WindowsGiveModel.not()I (('c', 55),)
def f_X9_not_j93 (N : Nat) (rc : Nat → wg_M → Option (Int32 × wg_M)) (M : wg_M)  (x1 : Int32) (s0 : Int32) : Option (Int32 × wg_M) :=
  bd (f_X9_next N M ) fun M12 =>
  bd2 (rc 2 M12 ) fun r14 M15 =>
  if s0 = 0 then (
    if x1 = r14 then (
      some ((1 : Int32), M15))
    else (
      some ((0 : Int32), M15)))
  else (
    if r14 ≤ x1 then (
      some ((0 : Int32), M15))
    else (
      some ((1 : Int32), M15)))
def f_X9_not_j77 (N : Nat) (rc : Nat → wg_M → Option (Int32 × wg_M)) (M : wg_M)  (x1 : Int32) : Option (Int32 × wg_M) :=
  if (lg_cmp (M.2 55) (60 : Int64)) = 0 then (
    f_X9_not_j93 N rc M  x1 (1 : Int32))
  else (
    f_X9_not_j93 N rc M  x1 (0 : Int32))
def f_X9_not (N : Nat) (rc : Nat → wg_M → Option (Int32 × wg_M)) (M : wg_M)  : Option (Int32 × wg_M) :=
  bd (f_X9_isWord M (110 : Int32) (111 : Int32) (116 : Int32) (0 : Int32) (0 : Int32) (0 : Int32) (0 : Int32) (0 : Int32)) fun r2 =>
  if r2 = 0 then (
    bd2 (rc 2 M ) fun r5 M6 =>
    bd (f_X9_isSign M6 (60 : Int32)) fun r8 =>
    if r8 = 0 then (
      bd (f_X9_isSign M6 (61 : Int32)) fun r20 =>
      if r20 = 0 then (
        some (r5, M6))
      else (
        f_X9_not_j77 N rc M6  r5))
    else (
      f_X9_not_j77 N rc M6  r5))
  else (
    bd2 (f_X9_opens N M ) fun r23 M24 =>
    if r23 = 0 then (
      some ((0 : Int32), M24))
    else (
      bd2 (rc 3 M24 ) fun r27 M28 =>
      lt_ (wg_sM M28 55 27 ((M28.1 55 27) - (1 : Int32))) fun M29 =>
      if r27 = 0 then (
        some ((1 : Int32), M29))
      else (
        some ((0 : Int32), M29))))
abbrev G_X9_not (d : Nat) (p : Program) (l : Launch) (e : Env) (s : State) (m : MethodId) (args : Array Value) (below : List Frame) (meth : Method) (c : Code) (E : wg_Ev) (ad : Nat → Nat) (S : wg_Sh) (r0 : Int32) (C0 : wg_C) (M0 : wg_M) (pc : Nat) (C : wg_C) (M : wg_M) (lv : List (Nat × Value)) (st : List Value) : Prop := wg_G p l e (wg_Rm (d + 9) (40 * (d + 1) + 300)) s m args below meth c (MQ below (wg_Qi E ad S r0 C0 M0) args s 0 0 (wg_A E)) 4 E ad S 0 0 pc C M lv st
set_option maxHeartbeats 4000000 in
set_option maxRecDepth 100000 in
theorem J_X9_not_j93 {p : Program} {l : Launch} {e : Env} {s : State} {m : MethodId} {args : Array Value} {below : List Frame} {meth : Method} {c : Code} {E : wg_Ev} {ad : Nat → Nat} {S : wg_Sh} (X : wg_X p s m args meth c cX9_not 4 RX9 E) (hr : meth.sig.returnType = (some .int)) (hS : wg_SM S) (r0 : Int32) (D0 : wg_M) (C : wg_C) (N : Nat) (d : Nat) (rc : Nat → wg_M → Option (Int32 × wg_M)) (hrc : ∀ (k : Nat) (D : wg_M) (r0 : Int32) (D0 : wg_M), rc k D  = some (r0, D0) → R_X9g l E ad S C d k D  r0 D0)  (M : wg_M)  (x1 : Int32) (s0 : Int32)   (h : f_X9_not_j93 N rc M  x1 s0 = some (r0, D0)) : G_X9_not d p l e s m args below meth c E ad S r0 C D0 93 C M [(0, .ref (ad 55)), (1, .int x1)] [.int s0] := by
  unfold f_X9_not_j93 at h
  refine wg_istore_n (lv' := [(2, .int s0), (0, .ref (ad 55)), (1, .int x1)]) X dX9_not_93 rfl rfl (by decide) rfl ?_
  refine wg_aload_n X 1 dX9_not_94 rfl rfl ?_
  obtain ⟨M12, h11, h⟩ := bd_some h
  refine wg_callVv (As := []) (rest := []) X (c_X9_next l E ad S hS N C M   h11) T_yX9_next k_1083 cl9 (SMi hS 55 9 rfl) dX9_not_95 rfl rfl (Nat.le_of_ble_eq_true rfl) ⟨show 1 + 1 ≤ d + 9 by omega, show 8 + (3 + 11) + 25 ≤ 40 * (d + 1) + 300 by omega⟩ ⟨Nat.zero_le _, Nat.zero_le _⟩ ?_
  refine wg_aload_n X 1 dX9_not_98 rfl rfl ?_
  obtain ⟨r14, M15, h13, h⟩ := bd2_some h
  refine wg_callVi (As := []) (rest := []) X (show wg_Ci l yX9_added cX9_added 4 (some .int) (d + 8) (40 * d + 300) E ad S C M12 [.ref (ad 55)] r14 C M15 from hrc 2 M12  r14 M15 h13) T_yX9_added k_1128 cl9 (SMi hS 55 9 rfl) dX9_not_99 rfl rfl (Nat.le_of_ble_eq_true rfl) ⟨show (d + 8) + 1 ≤ d + 9 by omega, show 8 + (4 + 11) + (40 * d + 300) ≤ 40 * (d + 1) + 300 by omega⟩ ⟨Nat.zero_le _, Nat.zero_le _⟩ ?_
  refine wg_istore_n (lv' := [(3, .int r14), (2, .int s0), (0, .ref (ad 55)), (1, .int x1)]) X dX9_not_102 rfl rfl (by decide) rfl ?_
  refine wg_iload_n X 1 dX9_not_103 rfl rfl ?_
  refine wg_if_eq X 115 dX9_not_104 (by decide) (fun c16 => ?_) (fun c16 => ?_)
  · have h := if_t c16 h
    refine wg_iload_n X 3 dX9_not_115 rfl rfl ?_
    refine wg_iload_n X 0 dX9_not_116 rfl rfl ?_
    refine wg_icmp_ne X 124 dX9_not_117 (by decide) (fun c17 => ?_) (fun c17 => ?_)
    · have h := if_f c17 h
      refine wg_iconst (v := 0) X dX9_not_124 (by decide) ?_
      exact wg_iret X ⟨(Prod.mk.inj (sm_inj h)).1, rfl, (Prod.mk.inj (sm_inj h)).2⟩ hr dX9_not_125
    · have h := if_t c17 h
      refine wg_iconst (v := 1) X dX9_not_120 (by decide) ?_
      refine wg_goto X 125 dX9_not_121 (by decide) ?_
      exact wg_iret X ⟨(Prod.mk.inj (sm_inj h)).1, rfl, (Prod.mk.inj (sm_inj h)).2⟩ hr dX9_not_125
  · have h := if_f c16 h
    refine wg_iload_n X 3 dX9_not_107 rfl rfl ?_
    refine wg_iload_n X 0 dX9_not_108 rfl rfl ?_
    refine wg_icmp_ge X 124 dX9_not_109 (by decide) (fun c18 => ?_) (fun c18 => ?_)
    · have h := if_t c18 h
      refine wg_iconst (v := 0) X dX9_not_124 (by decide) ?_
      exact wg_iret X ⟨(Prod.mk.inj (sm_inj h)).1, rfl, (Prod.mk.inj (sm_inj h)).2⟩ hr dX9_not_125
    · have h := if_f c18 h
      refine wg_goto X 120 dX9_not_112 (by decide) ?_
      refine wg_iconst (v := 1) X dX9_not_120 (by decide) ?_
      refine wg_goto X 125 dX9_not_121 (by decide) ?_
      exact wg_iret X ⟨(Prod.mk.inj (sm_inj h)).1, rfl, (Prod.mk.inj (sm_inj h)).2⟩ hr dX9_not_125
set_option maxHeartbeats 4000000 in
set_option maxRecDepth 100000 in
theorem J_X9_not_j77 {p : Program} {l : Launch} {e : Env} {s : State} {m : MethodId} {args : Array Value} {below : List Frame} {meth : Method} {c : Code} {E : wg_Ev} {ad : Nat → Nat} {S : wg_Sh} (X : wg_X p s m args meth c cX9_not 4 RX9 E) (hr : meth.sig.returnType = (some .int)) (hS : wg_SM S) (r0 : Int32) (D0 : wg_M) (C : wg_C) (N : Nat) (d : Nat) (rc : Nat → wg_M → Option (Int32 × wg_M)) (hrc : ∀ (k : Nat) (D : wg_M) (r0 : Int32) (D0 : wg_M), rc k D  = some (r0, D0) → R_X9g l E ad S C d k D  r0 D0)  (M : wg_M)  (x1 : Int32)   (h : f_X9_not_j77 N rc M  x1 = some (r0, D0)) : G_X9_not d p l e s m args below meth c E ad S r0 C D0 77 C M [(0, .ref (ad 55)), (1, .int x1)] [] := by
  unfold f_X9_not_j77 at h
  refine wg_aload_n X 0 dX9_not_77 rfl rfl ?_
  refine wg_getJ X cl9 (SMi hS 55 9 rfl) 26 (by decide) dX9_not_78 k_908 rfl ?_
  refine wg_ldc2 (v := 60) X dX9_not_81 k_1149 ?_
  refine wg_lcmp X dX9_not_84 ?_
  refine wg_if_ne X 92 dX9_not_85 (by decide) (fun c10 => ?_) (fun c10 => ?_)
  · have h := if_f c10 h
    refine wg_iconst (v := 0) X dX9_not_92 (by decide) ?_
    exact J_X9_not_j93 X hr hS r0 D0 C N d rc hrc  M  x1 (0 : Int32)   h
  · have h := if_t c10 h
    refine wg_iconst (v := 1) X dX9_not_88 (by decide) ?_
    refine wg_goto X 93 dX9_not_89 (by decide) ?_
    exact J_X9_not_j93 X hr hS r0 D0 C N d rc hrc  M  x1 (1 : Int32)   h
set_option maxHeartbeats 4000000 in
set_option maxRecDepth 100000 in
theorem c_X9_not (l : Launch) (E : wg_Ev) (ad : Nat → Nat) (S : wg_Sh) (hS : wg_SM S) (N : Nat) (d : Nat) (rc : Nat → wg_M → Option (Int32 × wg_M)) (C : wg_C) (hrc : ∀ (k : Nat) (D : wg_M) (r0 : Int32) (D0 : wg_M), rc k D  = some (r0, D0) → R_X9g l E ad S C d k D  r0 D0) (M : wg_M)   {r0 : Int32} {D0 : wg_M} (h : f_X9_not N rc M  = some (r0, D0)) : wg_Ci l yX9_not cX9_not 4 (some .int) (d + 9) (40 * (d + 1) + 300) E ad S C M [.ref (ad 55)] r0 C D0 := by
  refine wg_start (own := RX9) (by decide +kernel) rfl (Nat.le_of_ble_eq_true rfl) ?_
  intro p e s m below meth c X hr hnm
  refine wg_lv (lv' := [(0, .ref (ad 55))]) rfl ?_
  unfold f_X9_not at h
  refine wg_aload_n X 0 dX9_not_0 rfl rfl ?_
  refine wg_bipush (v := 110) X dX9_not_1 (by decide) ?_
  refine wg_bipush (v := 111) X dX9_not_3 (by decide) ?_
  refine wg_bipush (v := 116) X dX9_not_5 (by decide) ?_
  refine wg_iconst (v := 0) X dX9_not_7 (by decide) ?_
  refine wg_iconst (v := 0) X dX9_not_8 (by decide) ?_
  refine wg_iconst (v := 0) X dX9_not_9 (by decide) ?_
  refine wg_iconst (v := 0) X dX9_not_10 (by decide) ?_
  refine wg_iconst (v := 0) X dX9_not_11 (by decide) ?_
  obtain ⟨r2, h1, h⟩ := bd_some h
  refine wg_callVi (As := [.int (110 : Int32), .int (111 : Int32), .int (116 : Int32), .int (0 : Int32), .int (0 : Int32), .int (0 : Int32), .int (0 : Int32), .int (0 : Int32)]) (rest := []) X (c_X9_isWord l E ad S hS C M (110 : Int32) (111 : Int32) (116 : Int32) (0 : Int32) (0 : Int32) (0 : Int32) (0 : Int32) (0 : Int32)  h1) T_yX9_isWord k_1096 cl9 (SMi hS 55 9 rfl) dX9_not_12 rfl rfl (Nat.le_of_ble_eq_true rfl) ⟨show 2 + 1 ≤ d + 9 by omega, show 8 + (9 + 11) + 43 ≤ 40 * (d + 1) + 300 by omega⟩ ⟨Nat.zero_le _, Nat.zero_le _⟩ ?_
  refine wg_if_eq X 52 dX9_not_15 (by decide) (fun c3 => ?_) (fun c3 => ?_)
  · have h := if_t c3 h
    refine wg_aload_n X 0 dX9_not_52 rfl rfl ?_
    obtain ⟨r5, M6, h4, h⟩ := bd2_some h
    refine wg_callVi (As := []) (rest := []) X (show wg_Ci l yX9_added cX9_added 4 (some .int) (d + 8) (40 * d + 300) E ad S C M [.ref (ad 55)] r5 C M6 from hrc 2 M  r5 M6 h4) T_yX9_added k_1128 cl9 (SMi hS 55 9 rfl) dX9_not_53 rfl rfl (Nat.le_of_ble_eq_true rfl) ⟨show (d + 8) + 1 ≤ d + 9 by omega, show 8 + (4 + 11) + (40 * d + 300) ≤ 40 * (d + 1) + 300 by omega⟩ ⟨Nat.zero_le _, Nat.zero_le _⟩ ?_
    refine wg_istore_n (lv' := [(1, .int r5), (0, .ref (ad 55))]) X dX9_not_56 rfl rfl (by decide) rfl ?_
    refine wg_aload_n X 1 dX9_not_57 rfl rfl ?_
    refine wg_bipush (v := 60) X dX9_not_58 (by decide) ?_
    obtain ⟨r8, h7, h⟩ := bd_some h
    refine wg_callVi (As := [.int (60 : Int32)]) (rest := []) X (c_X9_isSign l E ad S hS C M6 (60 : Int32)  h7) T_yX9_isSign k_1140 cl9 (SMi hS 55 9 rfl) dX9_not_60 rfl rfl (Nat.le_of_ble_eq_true rfl) ⟨show 0 + 1 ≤ d + 9 by omega, show 8 + (2 + 11) + 0 ≤ 40 * (d + 1) + 300 by omega⟩ ⟨Nat.zero_le _, Nat.zero_le _⟩ ?_
    refine wg_if_ne X 77 dX9_not_63 (by decide) (fun c9 => ?_) (fun c9 => ?_)
    · have h := if_f c9 h
      refine wg_pick [1, 0] (lv' := [(0, .ref (ad 55)), (1, .int r5)]) rfl ?_
      exact J_X9_not_j77 X hr hS r0 D0 C N d rc hrc  M6  r5   h
    · have h := if_t c9 h
      refine wg_aload_n X 1 dX9_not_66 rfl rfl ?_
      refine wg_bipush (v := 61) X dX9_not_67 (by decide) ?_
      obtain ⟨r20, h19, h⟩ := bd_some h
      refine wg_callVi (As := [.int (61 : Int32)]) (rest := []) X (c_X9_isSign l E ad S hS C M6 (61 : Int32)  h19) T_yX9_isSign k_1140 cl9 (SMi hS 55 9 rfl) dX9_not_69 rfl rfl (Nat.le_of_ble_eq_true rfl) ⟨show 0 + 1 ≤ d + 9 by omega, show 8 + (2 + 11) + 0 ≤ 40 * (d + 1) + 300 by omega⟩ ⟨Nat.zero_le _, Nat.zero_le _⟩ ?_
      refine wg_if_ne X 77 dX9_not_72 (by decide) (fun c21 => ?_) (fun c21 => ?_)
      · have h := if_f c21 h
        refine wg_pick [1, 0] (lv' := [(0, .ref (ad 55)), (1, .int r5)]) rfl ?_
        exact J_X9_not_j77 X hr hS r0 D0 C N d rc hrc  M6  r5   h
      · have h := if_t c21 h
        refine wg_iload_n X 0 dX9_not_75 rfl rfl ?_
        exact wg_iret X ⟨(Prod.mk.inj (sm_inj h)).1, rfl, (Prod.mk.inj (sm_inj h)).2⟩ hr dX9_not_76
  · have h := if_f c3 h
    refine wg_aload_n X 0 dX9_not_18 rfl rfl ?_
    obtain ⟨r23, M24, h22, h⟩ := bd2_some h
    refine wg_callVi (As := []) (rest := []) X (c_X9_opens l E ad S hS N C M   h22) T_yX9_opens k_1124 cl9 (SMi hS 55 9 rfl) dX9_not_19 rfl rfl (Nat.le_of_ble_eq_true rfl) ⟨show 2 + 1 ≤ d + 9 by omega, show 8 + (1 + 11) + 47 ≤ 40 * (d + 1) + 300 by omega⟩ ⟨Nat.zero_le _, Nat.zero_le _⟩ ?_
    refine wg_if_ne X 27 dX9_not_22 (by decide) (fun c25 => ?_) (fun c25 => ?_)
    · have h := if_f c25 h
      refine wg_aload_n X 0 dX9_not_27 rfl rfl ?_
      obtain ⟨r27, M28, h26, h⟩ := bd2_some h
      refine wg_callVi (As := []) (rest := []) X (show wg_Ci l yX9_not cX9_not 4 (some .int) (d + 8) (40 * d + 300) E ad S C M24 [.ref (ad 55)] r27 C M28 from hrc 3 M24  r27 M28 h26) T_yX9_not k_1120 cl9 (SMi hS 55 9 rfl) dX9_not_28 rfl rfl (Nat.le_of_ble_eq_true rfl) ⟨show (d + 8) + 1 ≤ d + 9 by omega, show 8 + (4 + 11) + (40 * d + 300) ≤ 40 * (d + 1) + 300 by omega⟩ ⟨Nat.zero_le _, Nat.zero_le _⟩ ?_
      refine wg_istore_n (lv' := [(1, .int r27), (0, .ref (ad 55))]) X dX9_not_31 rfl rfl (by decide) rfl ?_
      refine wg_aload_n X 1 dX9_not_32 rfl rfl ?_
      refine wg_dup X dX9_not_33 rfl ?_
      refine wg_getM X cl9 (SMi hS 55 9 rfl) 27 (by decide) dX9_not_34 k_909 rfl ?_
      refine wg_iconst (v := 1) X dX9_not_37 (by decide) ?_
      refine wg_isub X dX9_not_38 ?_
      obtain ⟨M29, e30, h⟩ := lt_some h
      refine wg_putMe X cl9 (SMi hS 55 9 rfl) 27 (by decide) dX9_not_39 k_909 rfl rfl rfl rfl e30 ?_
      refine wg_iload_n X 0 dX9_not_42 rfl rfl ?_
      refine wg_if_ne X 50 dX9_not_43 (by decide) (fun c31 => ?_) (fun c31 => ?_)
      · have h := if_f c31 h
        refine wg_iconst (v := 0) X dX9_not_50 (by decide) ?_
        exact wg_iret X ⟨(Prod.mk.inj (sm_inj h)).1, rfl, (Prod.mk.inj (sm_inj h)).2⟩ hr dX9_not_51
      · have h := if_t c31 h
        refine wg_iconst (v := 1) X dX9_not_46 (by decide) ?_
        refine wg_goto X 51 dX9_not_47 (by decide) ?_
        exact wg_iret X ⟨(Prod.mk.inj (sm_inj h)).1, rfl, (Prod.mk.inj (sm_inj h)).2⟩ hr dX9_not_51
    · have h := if_t c25 h
      refine wg_iconst (v := 0) X dX9_not_25 (by decide) ?_
      exact wg_iret X ⟨(Prod.mk.inj (sm_inj h)).1, rfl, (Prod.mk.inj (sm_inj h)).2⟩ hr dX9_not_26
