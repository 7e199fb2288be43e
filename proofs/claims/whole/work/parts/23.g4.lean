-- WindowsGiveModel.both()I (('c', 55),)
def f_X9_both_l5 (N : Nat) (rc : Nat → wg_M → Option (Int32 × wg_M))   (M : wg_M) (x1 : Int32) : Option ((wg_M × Int32) ⊕ (wg_M × Int32)) :=
  bd (f_X9_isWord M (97 : Int32) (110 : Int32) (100 : Int32) (0 : Int32) (0 : Int32) (0 : Int32) (0 : Int32) (0 : Int32)) fun r5 =>
  if r5 = 0 then (
    some (.inr (M, x1)))
  else (
    bd (f_X9_next N M ) fun M8 =>
    bd2 (rc 3 M8 ) fun r10 M11 =>
    if x1 = 0 then (
      some (.inl (M11, (0 : Int32))))
    else (
      if r10 = 0 then (
        some (.inl (M11, (0 : Int32))))
      else (
        some (.inl (M11, (1 : Int32))))))
def f_X9_both (N : Nat) (rc : Nat → wg_M → Option (Int32 × wg_M)) (M : wg_M)  : Option (Int32 × wg_M) :=
  bd2 (rc 3 M ) fun r2 M3 =>
  bd2 (lp (fun o => f_X9_both_l5 N rc   o.1 o.2) N (M3, r2)) fun M14 v15 =>
  some (v15, M14)
abbrev G_X9_both (d : Nat) (p : Program) (l : Launch) (e : Env) (s : State) (m : MethodId) (args : Array Value) (below : List Frame) (meth : Method) (c : Code) (E : wg_Ev) (ad : Nat → Nat) (S : wg_Sh) (r0 : Int32) (C0 : wg_C) (M0 : wg_M) (pc : Nat) (C : wg_C) (M : wg_M) (lv : List (Nat × Value)) (st : List Value) : Prop := wg_G p l e (wg_Rm (d + 9) (40 * (d + 1) + 300)) s m args below meth c (MQ below (wg_Qi E ad S r0 C0 M0) args s 0 0 (wg_A E)) 3 E ad S 0 0 pc C M lv st
set_option maxHeartbeats 4000000 in
set_option maxRecDepth 100000 in
theorem L_X9_both_l5 {p : Program} {l : Launch} {e : Env} {s : State} {m : MethodId} {args : Array Value} {below : List Frame} {meth : Method} {c : Code} {E : wg_Ev} {ad : Nat → Nat} {S : wg_Sh} (X : wg_X p s m args meth c cX9_both 3 RX9 E) (hr : meth.sig.returnType = (some .int)) (hS : wg_SM S) (r0 : Int32) (D0 : wg_M) (C : wg_C) (N : Nat) (d : Nat) (rc : Nat → wg_M → Option (Int32 × wg_M)) (hrc : ∀ (k : Nat) (D : wg_M) (r0 : Int32) (D0 : wg_M), rc k D  = some (r0, D0) → R_X9g l E ad S C d k D  r0 D0)     : ∀ (n : Nat) (M : wg_M) (x1 : Int32) (o : (wg_M × Int32)), lp (fun o => f_X9_both_l5 N rc   o.1 o.2) n (M, x1) = some o → (∀ (Dy : wg_M) (y1 : Int32), o = (Dy, y1) → G_X9_both d p l e s m args below meth c E ad S r0 C D0 49 C Dy [(0, .ref (ad 55)), (1, .int y1)] []) → G_X9_both d p l e s m args below meth c E ad S r0 C D0 5 C M [(0, .ref (ad 55)), (1, .int x1)] [] := by
  intro n
  induction n with
  | zero => exact fun _ _ o h => (lp_zero h).elim
  | succ n ih =>
    intro M x1 o h K
    obtain ⟨o1, hb, h2⟩ := lp_some h
    replace hb : f_X9_both_l5 N rc   M x1 = some o1 := hb
    clear h
    have Kc : ∀ (Dy : wg_M) (y1 : Int32), o1 = Sum.inl (Dy, y1) → G_X9_both d p l e s m args below meth c E ad S r0 C D0 5 C Dy [(0, .ref (ad 55)), (1, .int y1)] [] := fun Dy y1 e1 => by
      subst e1
      exact ih Dy y1 o h2 K
    have Ke : ∀ (Dy : wg_M) (y1 : Int32), o1 = Sum.inr ((Dy, y1)) → G_X9_both d p l e s m args below meth c E ad S r0 C D0 49 C Dy [(0, .ref (ad 55)), (1, .int y1)] [] := fun Dy y1 e1 => by
      subst e1
      exact K Dy y1 (sm_inj (α := (wg_M × Int32)) h2).symm
    clear ih K h2
    unfold f_X9_both_l5 at hb
    have h := hb
    clear hb
    refine wg_aload_n X 0 dX9_both_5 rfl rfl ?_
    refine wg_bipush (v := 97) X dX9_both_6 (by decide) ?_
    refine wg_bipush (v := 110) X dX9_both_8 (by decide) ?_
    refine wg_bipush (v := 100) X dX9_both_10 (by decide) ?_
    refine wg_iconst (v := 0) X dX9_both_12 (by decide) ?_
    refine wg_iconst (v := 0) X dX9_both_13 (by decide) ?_
    refine wg_iconst (v := 0) X dX9_both_14 (by decide) ?_
    refine wg_iconst (v := 0) X dX9_both_15 (by decide) ?_
    refine wg_iconst (v := 0) X dX9_both_16 (by decide) ?_
    obtain ⟨r5, h4, h⟩ := bd_some h
    refine wg_callVi (As := [.int (97 : Int32), .int (110 : Int32), .int (100 : Int32), .int (0 : Int32), .int (0 : Int32), .int (0 : Int32), .int (0 : Int32), .int (0 : Int32)]) (rest := []) X (c_X9_isWord l E ad S hS C M (97 : Int32) (110 : Int32) (100 : Int32) (0 : Int32) (0 : Int32) (0 : Int32) (0 : Int32) (0 : Int32)  h4) T_yX9_isWord k_1096 cl9 (SMi hS 55 9 rfl) dX9_both_17 rfl rfl (Nat.le_of_ble_eq_true rfl) ⟨show 2 + 1 ≤ d + 9 by omega, show 8 + (9 + 11) + 43 ≤ 40 * (d + 1) + 300 by omega⟩ ⟨Nat.zero_le _, Nat.zero_le _⟩ ?_
    refine wg_if_eq X 49 dX9_both_20 (by decide) (fun c6 => ?_) (fun c6 => ?_)
    · have h := if_t c6 h
      exact Ke M x1 (sm_inj h).symm
    · have h := if_f c6 h
      refine wg_aload_n X 0 dX9_both_23 rfl rfl ?_
      obtain ⟨M8, h7, h⟩ := bd_some h
      refine wg_callVv (As := []) (rest := []) X (c_X9_next l E ad S hS N C M   h7) T_yX9_next k_1083 cl9 (SMi hS 55 9 rfl) dX9_both_24 rfl rfl (Nat.le_of_ble_eq_true rfl) ⟨show 1 + 1 ≤ d + 9 by omega, show 8 + (3 + 11) + 25 ≤ 40 * (d + 1) + 300 by omega⟩ ⟨Nat.zero_le _, Nat.zero_le _⟩ ?_
      refine wg_aload_n X 0 dX9_both_27 rfl rfl ?_
      obtain ⟨r10, M11, h9, h⟩ := bd2_some h
      refine wg_callVi (As := []) (rest := []) X (show wg_Ci l yX9_not cX9_not 4 (some .int) (d + 8) (40 * d + 300) E ad S C M8 [.ref (ad 55)] r10 C M11 from hrc 3 M8  r10 M11 h9) T_yX9_not k_1120 cl9 (SMi hS 55 9 rfl) dX9_both_28 rfl rfl (Nat.le_of_ble_eq_true rfl) ⟨show (d + 8) + 1 ≤ d + 9 by omega, show 8 + (4 + 11) + (40 * d + 300) ≤ 40 * (d + 1) + 300 by omega⟩ ⟨Nat.zero_le _, Nat.zero_le _⟩ ?_
      refine wg_istore_n (lv' := [(2, .int r10), (0, .ref (ad 55)), (1, .int x1)]) X dX9_both_31 rfl rfl (by decide) rfl ?_
      refine wg_iload_n X 2 dX9_both_32 rfl rfl ?_
      refine wg_if_eq X 44 dX9_both_33 (by decide) (fun c12 => ?_) (fun c12 => ?_)
      · have h := if_t c12 h
        refine wg_iconst (v := 0) X dX9_both_44 (by decide) ?_
        refine wg_istore_n (lv' := [(1, .int (0 : Int32)), (2, .int r10), (0, .ref (ad 55))]) X dX9_both_45 rfl rfl (by decide) rfl ?_
        refine wg_goto X 5 dX9_both_46 (by decide) ?_
        refine wg_pick [2, 0] (lv' := [(0, .ref (ad 55)), (1, .int (0 : Int32))]) rfl ?_
        exact Kc M11 (0 : Int32) (sm_inj h).symm
      · have h := if_f c12 h
        refine wg_iload_n X 0 dX9_both_36 rfl rfl ?_
        refine wg_if_eq X 44 dX9_both_37 (by decide) (fun c13 => ?_) (fun c13 => ?_)
        · have h := if_t c13 h
          refine wg_iconst (v := 0) X dX9_both_44 (by decide) ?_
          refine wg_istore_n (lv' := [(1, .int (0 : Int32)), (2, .int r10), (0, .ref (ad 55))]) X dX9_both_45 rfl rfl (by decide) rfl ?_
          refine wg_goto X 5 dX9_both_46 (by decide) ?_
          refine wg_pick [2, 0] (lv' := [(0, .ref (ad 55)), (1, .int (0 : Int32))]) rfl ?_
          exact Kc M11 (0 : Int32) (sm_inj h).symm
        · have h := if_f c13 h
          refine wg_iconst (v := 1) X dX9_both_40 (by decide) ?_
          refine wg_goto X 45 dX9_both_41 (by decide) ?_
          refine wg_istore_n (lv' := [(1, .int (1 : Int32)), (2, .int r10), (0, .ref (ad 55))]) X dX9_both_45 rfl rfl (by decide) rfl ?_
          refine wg_goto X 5 dX9_both_46 (by decide) ?_
          refine wg_pick [2, 0] (lv' := [(0, .ref (ad 55)), (1, .int (1 : Int32))]) rfl ?_
          exact Kc M11 (1 : Int32) (sm_inj h).symm
set_option maxHeartbeats 4000000 in
set_option maxRecDepth 100000 in
theorem c_X9_both (l : Launch) (E : wg_Ev) (ad : Nat → Nat) (S : wg_Sh) (hS : wg_SM S) (N : Nat) (d : Nat) (rc : Nat → wg_M → Option (Int32 × wg_M)) (C : wg_C) (hrc : ∀ (k : Nat) (D : wg_M) (r0 : Int32) (D0 : wg_M), rc k D  = some (r0, D0) → R_X9g l E ad S C d k D  r0 D0) (M : wg_M)   {r0 : Int32} {D0 : wg_M} (h : f_X9_both N rc M  = some (r0, D0)) : wg_Ci l yX9_both cX9_both 3 (some .int) (d + 9) (40 * (d + 1) + 300) E ad S C M [.ref (ad 55)] r0 C D0 := by
  refine wg_start (own := RX9) (by decide +kernel) rfl (Nat.le_of_ble_eq_true rfl) ?_
  intro p e s m below meth c X hr hnm
  refine wg_lv (lv' := [(0, .ref (ad 55))]) rfl ?_
  unfold f_X9_both at h
  refine wg_aload_n X 0 dX9_both_0 rfl rfl ?_
  obtain ⟨r2, M3, h1, h⟩ := bd2_some h
  refine wg_callVi (As := []) (rest := []) X (show wg_Ci l yX9_not cX9_not 4 (some .int) (d + 8) (40 * d + 300) E ad S C M [.ref (ad 55)] r2 C M3 from hrc 3 M  r2 M3 h1) T_yX9_not k_1120 cl9 (SMi hS 55 9 rfl) dX9_both_1 rfl rfl (Nat.le_of_ble_eq_true rfl) ⟨show (d + 8) + 1 ≤ d + 9 by omega, show 8 + (4 + 11) + (40 * d + 300) ≤ 40 * (d + 1) + 300 by omega⟩ ⟨Nat.zero_le _, Nat.zero_le _⟩ ?_
  refine wg_istore_n (lv' := [(1, .int r2), (0, .ref (ad 55))]) X dX9_both_4 rfl rfl (by decide) rfl ?_
  obtain ⟨o16, h17, h⟩ := bd2_o h
  refine wg_pick [1, 0] (lv' := [(0, .ref (ad 55)), (1, .int r2)]) rfl ?_
  refine L_X9_both_l5 X hr hS r0 D0 C N d rc hrc     N M3 r2 o16 h17 (fun M14 v15 e19 => ?_)
  · subst o16
    replace h := bd2_in h
    refine wg_iload_n X 1 dX9_both_49 rfl rfl ?_
    exact wg_iret X ⟨(Prod.mk.inj (sm_inj h)).1, rfl, (Prod.mk.inj (sm_inj h)).2⟩ hr dX9_both_50
-- WindowsGiveModel.either()I (('c', 55),)
def f_X9_either_l5 (N : Nat) (rc : Nat → wg_M → Option (Int32 × wg_M))   (M : wg_M) (x1 : Int32) : Option ((wg_M × Int32) ⊕ (wg_M × Int32)) :=
  bd (f_X9_isWord M (111 : Int32) (114 : Int32) (0 : Int32) (0 : Int32) (0 : Int32) (0 : Int32) (0 : Int32) (0 : Int32)) fun r5 =>
  if r5 = 0 then (
    some (.inr (M, x1)))
  else (
    bd (f_X9_next N M ) fun M8 =>
    bd2 (rc 4 M8 ) fun r10 M11 =>
    if x1 = 0 then (
      if r10 = 0 then (
        some (.inl (M11, (0 : Int32))))
      else (
        some (.inl (M11, (1 : Int32)))))
    else (
      some (.inl (M11, (1 : Int32)))))
def f_X9_either (N : Nat) (rc : Nat → wg_M → Option (Int32 × wg_M)) (M : wg_M)  : Option (Int32 × wg_M) :=
  bd2 (rc 4 M ) fun r2 M3 =>
  bd2 (lp (fun o => f_X9_either_l5 N rc   o.1 o.2) N (M3, r2)) fun M14 v15 =>
  some (v15, M14)
abbrev G_X9_either (d : Nat) (p : Program) (l : Launch) (e : Env) (s : State) (m : MethodId) (args : Array Value) (below : List Frame) (meth : Method) (c : Code) (E : wg_Ev) (ad : Nat → Nat) (S : wg_Sh) (r0 : Int32) (C0 : wg_C) (M0 : wg_M) (pc : Nat) (C : wg_C) (M : wg_M) (lv : List (Nat × Value)) (st : List Value) : Prop := wg_G p l e (wg_Rm (d + 9) (40 * (d + 1) + 300)) s m args below meth c (MQ below (wg_Qi E ad S r0 C0 M0) args s 0 0 (wg_A E)) 3 E ad S 0 0 pc C M lv st
set_option maxHeartbeats 4000000 in
set_option maxRecDepth 100000 in
theorem L_X9_either_l5 {p : Program} {l : Launch} {e : Env} {s : State} {m : MethodId} {args : Array Value} {below : List Frame} {meth : Method} {c : Code} {E : wg_Ev} {ad : Nat → Nat} {S : wg_Sh} (X : wg_X p s m args meth c cX9_either 3 RX9 E) (hr : meth.sig.returnType = (some .int)) (hS : wg_SM S) (r0 : Int32) (D0 : wg_M) (C : wg_C) (N : Nat) (d : Nat) (rc : Nat → wg_M → Option (Int32 × wg_M)) (hrc : ∀ (k : Nat) (D : wg_M) (r0 : Int32) (D0 : wg_M), rc k D  = some (r0, D0) → R_X9g l E ad S C d k D  r0 D0)     : ∀ (n : Nat) (M : wg_M) (x1 : Int32) (o : (wg_M × Int32)), lp (fun o => f_X9_either_l5 N rc   o.1 o.2) n (M, x1) = some o → (∀ (Dy : wg_M) (y1 : Int32), o = (Dy, y1) → G_X9_either d p l e s m args below meth c E ad S r0 C D0 48 C Dy [(0, .ref (ad 55)), (1, .int y1)] []) → G_X9_either d p l e s m args below meth c E ad S r0 C D0 5 C M [(0, .ref (ad 55)), (1, .int x1)] [] := by
  intro n
  induction n with
  | zero => exact fun _ _ o h => (lp_zero h).elim
  | succ n ih =>
    intro M x1 o h K
    obtain ⟨o1, hb, h2⟩ := lp_some h
    replace hb : f_X9_either_l5 N rc   M x1 = some o1 := hb
    clear h
    have Kc : ∀ (Dy : wg_M) (y1 : Int32), o1 = Sum.inl (Dy, y1) → G_X9_either d p l e s m args below meth c E ad S r0 C D0 5 C Dy [(0, .ref (ad 55)), (1, .int y1)] [] := fun Dy y1 e1 => by
      subst e1
      exact ih Dy y1 o h2 K
    have Ke : ∀ (Dy : wg_M) (y1 : Int32), o1 = Sum.inr ((Dy, y1)) → G_X9_either d p l e s m args below meth c E ad S r0 C D0 48 C Dy [(0, .ref (ad 55)), (1, .int y1)] [] := fun Dy y1 e1 => by
      subst e1
      exact K Dy y1 (sm_inj (α := (wg_M × Int32)) h2).symm
    clear ih K h2
    unfold f_X9_either_l5 at hb
    have h := hb
    clear hb
    refine wg_aload_n X 0 dX9_either_5 rfl rfl ?_
    refine wg_bipush (v := 111) X dX9_either_6 (by decide) ?_
    refine wg_bipush (v := 114) X dX9_either_8 (by decide) ?_
    refine wg_iconst (v := 0) X dX9_either_10 (by decide) ?_
    refine wg_iconst (v := 0) X dX9_either_11 (by decide) ?_
    refine wg_iconst (v := 0) X dX9_either_12 (by decide) ?_
    refine wg_iconst (v := 0) X dX9_either_13 (by decide) ?_
    refine wg_iconst (v := 0) X dX9_either_14 (by decide) ?_
    refine wg_iconst (v := 0) X dX9_either_15 (by decide) ?_
    obtain ⟨r5, h4, h⟩ := bd_some h
    refine wg_callVi (As := [.int (111 : Int32), .int (114 : Int32), .int (0 : Int32), .int (0 : Int32), .int (0 : Int32), .int (0 : Int32), .int (0 : Int32), .int (0 : Int32)]) (rest := []) X (c_X9_isWord l E ad S hS C M (111 : Int32) (114 : Int32) (0 : Int32) (0 : Int32) (0 : Int32) (0 : Int32) (0 : Int32) (0 : Int32)  h4) T_yX9_isWord k_1096 cl9 (SMi hS 55 9 rfl) dX9_either_16 rfl rfl (Nat.le_of_ble_eq_true rfl) ⟨show 2 + 1 ≤ d + 9 by omega, show 8 + (9 + 11) + 43 ≤ 40 * (d + 1) + 300 by omega⟩ ⟨Nat.zero_le _, Nat.zero_le _⟩ ?_
    refine wg_if_eq X 48 dX9_either_19 (by decide) (fun c6 => ?_) (fun c6 => ?_)
    · have h := if_t c6 h
      exact Ke M x1 (sm_inj h).symm
    · have h := if_f c6 h
      refine wg_aload_n X 0 dX9_either_22 rfl rfl ?_
      obtain ⟨M8, h7, h⟩ := bd_some h
      refine wg_callVv (As := []) (rest := []) X (c_X9_next l E ad S hS N C M   h7) T_yX9_next k_1083 cl9 (SMi hS 55 9 rfl) dX9_either_23 rfl rfl (Nat.le_of_ble_eq_true rfl) ⟨show 1 + 1 ≤ d + 9 by omega, show 8 + (3 + 11) + 25 ≤ 40 * (d + 1) + 300 by omega⟩ ⟨Nat.zero_le _, Nat.zero_le _⟩ ?_
      refine wg_aload_n X 0 dX9_either_26 rfl rfl ?_
      obtain ⟨r10, M11, h9, h⟩ := bd2_some h
      refine wg_callVi (As := []) (rest := []) X (show wg_Ci l yX9_both cX9_both 3 (some .int) (d + 8) (40 * d + 300) E ad S C M8 [.ref (ad 55)] r10 C M11 from hrc 4 M8  r10 M11 h9) T_yX9_both k_1116 cl9 (SMi hS 55 9 rfl) dX9_either_27 rfl rfl (Nat.le_of_ble_eq_true rfl) ⟨show (d + 8) + 1 ≤ d + 9 by omega, show 8 + (3 + 11) + (40 * d + 300) ≤ 40 * (d + 1) + 300 by omega⟩ ⟨Nat.zero_le _, Nat.zero_le _⟩ ?_
      refine wg_istore_n (lv' := [(2, .int r10), (0, .ref (ad 55)), (1, .int x1)]) X dX9_either_30 rfl rfl (by decide) rfl ?_
      refine wg_iload_n X 2 dX9_either_31 rfl rfl ?_
      refine wg_if_ne X 39 dX9_either_32 (by decide) (fun c12 => ?_) (fun c12 => ?_)
      · have h := if_f c12 h
        refine wg_iconst (v := 1) X dX9_either_39 (by decide) ?_
        refine wg_goto X 44 dX9_either_40 (by decide) ?_
        refine wg_istore_n (lv' := [(1, .int (1 : Int32)), (2, .int r10), (0, .ref (ad 55))]) X dX9_either_44 rfl rfl (by decide) rfl ?_
        refine wg_goto X 5 dX9_either_45 (by decide) ?_
        refine wg_pick [2, 0] (lv' := [(0, .ref (ad 55)), (1, .int (1 : Int32))]) rfl ?_
        exact Kc M11 (1 : Int32) (sm_inj h).symm
      · have h := if_t c12 h
        refine wg_iload_n X 0 dX9_either_35 rfl rfl ?_
        refine wg_if_eq X 43 dX9_either_36 (by decide) (fun c13 => ?_) (fun c13 => ?_)
        · have h := if_t c13 h
          refine wg_iconst (v := 0) X dX9_either_43 (by decide) ?_
          refine wg_istore_n (lv' := [(1, .int (0 : Int32)), (2, .int r10), (0, .ref (ad 55))]) X dX9_either_44 rfl rfl (by decide) rfl ?_
          refine wg_goto X 5 dX9_either_45 (by decide) ?_
          refine wg_pick [2, 0] (lv' := [(0, .ref (ad 55)), (1, .int (0 : Int32))]) rfl ?_
          exact Kc M11 (0 : Int32) (sm_inj h).symm
        · have h := if_f c13 h
          refine wg_iconst (v := 1) X dX9_either_39 (by decide) ?_
          refine wg_goto X 44 dX9_either_40 (by decide) ?_
          refine wg_istore_n (lv' := [(1, .int (1 : Int32)), (2, .int r10), (0, .ref (ad 55))]) X dX9_either_44 rfl rfl (by decide) rfl ?_
          refine wg_goto X 5 dX9_either_45 (by decide) ?_
          refine wg_pick [2, 0] (lv' := [(0, .ref (ad 55)), (1, .int (1 : Int32))]) rfl ?_
          exact Kc M11 (1 : Int32) (sm_inj h).symm
set_option maxHeartbeats 4000000 in
set_option maxRecDepth 100000 in
theorem c_X9_either (l : Launch) (E : wg_Ev) (ad : Nat → Nat) (S : wg_Sh) (hS : wg_SM S) (N : Nat) (d : Nat) (rc : Nat → wg_M → Option (Int32 × wg_M)) (C : wg_C) (hrc : ∀ (k : Nat) (D : wg_M) (r0 : Int32) (D0 : wg_M), rc k D  = some (r0, D0) → R_X9g l E ad S C d k D  r0 D0) (M : wg_M)   {r0 : Int32} {D0 : wg_M} (h : f_X9_either N rc M  = some (r0, D0)) : wg_Ci l yX9_either cX9_either 3 (some .int) (d + 9) (40 * (d + 1) + 300) E ad S C M [.ref (ad 55)] r0 C D0 := by
  refine wg_start (own := RX9) (by decide +kernel) rfl (Nat.le_of_ble_eq_true rfl) ?_
  intro p e s m below meth c X hr hnm
  refine wg_lv (lv' := [(0, .ref (ad 55))]) rfl ?_
  unfold f_X9_either at h
  refine wg_aload_n X 0 dX9_either_0 rfl rfl ?_
  obtain ⟨r2, M3, h1, h⟩ := bd2_some h
  refine wg_callVi (As := []) (rest := []) X (show wg_Ci l yX9_both cX9_both 3 (some .int) (d + 8) (40 * d + 300) E ad S C M [.ref (ad 55)] r2 C M3 from hrc 4 M  r2 M3 h1) T_yX9_both k_1116 cl9 (SMi hS 55 9 rfl) dX9_either_1 rfl rfl (Nat.le_of_ble_eq_true rfl) ⟨show (d + 8) + 1 ≤ d + 9 by omega, show 8 + (3 + 11) + (40 * d + 300) ≤ 40 * (d + 1) + 300 by omega⟩ ⟨Nat.zero_le _, Nat.zero_le _⟩ ?_
  refine wg_istore_n (lv' := [(1, .int r2), (0, .ref (ad 55))]) X dX9_either_4 rfl rfl (by decide) rfl ?_
  obtain ⟨o16, h17, h⟩ := bd2_o h
  refine wg_pick [1, 0] (lv' := [(0, .ref (ad 55)), (1, .int r2)]) rfl ?_
  refine L_X9_either_l5 X hr hS r0 D0 C N d rc hrc     N M3 r2 o16 h17 (fun M14 v15 e19 => ?_)
  · subst o16
    replace h := bd2_in h
    refine wg_iload_n X 1 dX9_either_48 rfl rfl ?_
    exact wg_iret X ⟨(Prod.mk.inj (sm_inj h)).1, rfl, (Prod.mk.inj (sm_inj h)).2⟩ hr dX9_either_49
def f_X9g (N : Nat) : Nat → Nat → wg_M → Option (Int32 × wg_M)
  | 0 => fun k D  => none
  | d + 1 => fun k D  => if k = 0 then f_X9_atom N (f_X9g N d) D  else if k = 1 then f_X9_term N (f_X9g N d) D  else if k = 2 then f_X9_added N (f_X9g N d) D  else if k = 3 then f_X9_not N (f_X9g N d) D  else if k = 4 then f_X9_both N (f_X9g N d) D  else if k = 5 then f_X9_either N (f_X9g N d) D  else none
set_option maxHeartbeats 4000000 in
set_option maxRecDepth 100000 in
theorem c_X9g (l : Launch) (E : wg_Ev) (ad : Nat → Nat) (S : wg_Sh) (hS : wg_SM S) (N : Nat) (C : wg_C) : ∀ (d k : Nat) (D : wg_M) (r0 : Int32) (D0 : wg_M), f_X9g N d k D  = some (r0, D0) → R_X9g l E ad S C d k D  r0 D0 := by
  intro d
  induction d with
  | zero => intro k D  r0 D0 h; cases h
  | succ d ih =>
    intro k D  r0 D0 h
    replace h : (if k = 0 then f_X9_atom N (f_X9g N d) D  else if k = 1 then f_X9_term N (f_X9g N d) D  else if k = 2 then f_X9_added N (f_X9g N d) D  else if k = 3 then f_X9_not N (f_X9g N d) D  else if k = 4 then f_X9_both N (f_X9g N d) D  else if k = 5 then f_X9_either N (f_X9g N d) D  else none) = some (r0, D0) := h
    by_cases k0 : k = 0
    · subst k0
      have h := if_t rfl h
      exact c_X9_atom l E ad S hS N d (f_X9g N d) C (fun k D  r0 D0 h => ih k D  r0 D0 h) D  h
    have h := if_f k0 h
    by_cases k1 : k = 1
    · subst k1
      have h := if_t rfl h
      exact c_X9_term l E ad S hS N d (f_X9g N d) C (fun k D  r0 D0 h => ih k D  r0 D0 h) D  h
    have h := if_f k1 h
    by_cases k2 : k = 2
    · subst k2
      have h := if_t rfl h
      exact c_X9_added l E ad S hS N d (f_X9g N d) C (fun k D  r0 D0 h => ih k D  r0 D0 h) D  h
    have h := if_f k2 h
    by_cases k3 : k = 3
    · subst k3
      have h := if_t rfl h
      exact c_X9_not l E ad S hS N d (f_X9g N d) C (fun k D  r0 D0 h => ih k D  r0 D0 h) D  h
    have h := if_f k3 h
    by_cases k4 : k = 4
    · subst k4
      have h := if_t rfl h
      exact c_X9_both l E ad S hS N d (f_X9g N d) C (fun k D  r0 D0 h => ih k D  r0 D0 h) D  h
    have h := if_f k4 h
    by_cases k5 : k = 5
    · subst k5
      have h := if_t rfl h
      exact c_X9_either l E ad S hS N d (f_X9g N d) C (fun k D  r0 D0 h => ih k D  r0 D0 h) D  h
    have h := if_f k5 h
    cases h
def f_X9_atom_e (N : Nat) (D : wg_M) : Option (Int32 × wg_M) := f_X9g N 64 0 D 
theorem c_X9_atom_e (l : Launch) (E : wg_Ev) (ad : Nat → Nat) (S : wg_Sh) (hS : wg_SM S) (N : Nat) (C : wg_C) (M : wg_M) {r0 : Int32} {D0 : wg_M} (h : f_X9_atom_e N M  = some (r0, D0)) : wg_Ci l yX9_atom cX9_atom 2 (some .int) 72 2860 E ad S C M [.ref (ad 55)] r0 C D0 := c_X9g l E ad S hS N C 64 0 M  r0 D0 h
def f_X9_term_e (N : Nat) (D : wg_M) : Option (Int32 × wg_M) := f_X9g N 64 1 D 
theorem c_X9_term_e (l : Launch) (E : wg_Ev) (ad : Nat → Nat) (S : wg_Sh) (hS : wg_SM S) (N : Nat) (C : wg_C) (M : wg_M) {r0 : Int32} {D0 : wg_M} (h : f_X9_term_e N M  = some (r0, D0)) : wg_Ci l yX9_term cX9_term 2 (some .int) 72 2860 E ad S C M [.ref (ad 55)] r0 C D0 := c_X9g l E ad S hS N C 64 1 M  r0 D0 h
def f_X9_added_e (N : Nat) (D : wg_M) : Option (Int32 × wg_M) := f_X9g N 64 2 D 
theorem c_X9_added_e (l : Launch) (E : wg_Ev) (ad : Nat → Nat) (S : wg_Sh) (hS : wg_SM S) (N : Nat) (C : wg_C) (M : wg_M) {r0 : Int32} {D0 : wg_M} (h : f_X9_added_e N M  = some (r0, D0)) : wg_Ci l yX9_added cX9_added 4 (some .int) 72 2860 E ad S C M [.ref (ad 55)] r0 C D0 := c_X9g l E ad S hS N C 64 2 M  r0 D0 h
def f_X9_not_e (N : Nat) (D : wg_M) : Option (Int32 × wg_M) := f_X9g N 64 3 D 
theorem c_X9_not_e (l : Launch) (E : wg_Ev) (ad : Nat → Nat) (S : wg_Sh) (hS : wg_SM S) (N : Nat) (C : wg_C) (M : wg_M) {r0 : Int32} {D0 : wg_M} (h : f_X9_not_e N M  = some (r0, D0)) : wg_Ci l yX9_not cX9_not 4 (some .int) 72 2860 E ad S C M [.ref (ad 55)] r0 C D0 := c_X9g l E ad S hS N C 64 3 M  r0 D0 h
def f_X9_both_e (N : Nat) (D : wg_M) : Option (Int32 × wg_M) := f_X9g N 64 4 D 
theorem c_X9_both_e (l : Launch) (E : wg_Ev) (ad : Nat → Nat) (S : wg_Sh) (hS : wg_SM S) (N : Nat) (C : wg_C) (M : wg_M) {r0 : Int32} {D0 : wg_M} (h : f_X9_both_e N M  = some (r0, D0)) : wg_Ci l yX9_both cX9_both 3 (some .int) 72 2860 E ad S C M [.ref (ad 55)] r0 C D0 := c_X9g l E ad S hS N C 64 4 M  r0 D0 h
def f_X9_either_e (N : Nat) (D : wg_M) : Option (Int32 × wg_M) := f_X9g N 64 5 D 
theorem c_X9_either_e (l : Launch) (E : wg_Ev) (ad : Nat → Nat) (S : wg_Sh) (hS : wg_SM S) (N : Nat) (C : wg_C) (M : wg_M) {r0 : Int32} {D0 : wg_M} (h : f_X9_either_e N M  = some (r0, D0)) : wg_Ci l yX9_either cX9_either 3 (some .int) 72 2860 E ad S C M [.ref (ad 55)] r0 C D0 := c_X9g l E ad S hS N C 64 5 M  r0 D0 h
-- WindowsGiveModel.part(Z)I (('c', 55), 'i')
def f_X9_part_j48 (N : Nat) (M : wg_M)  (x2 : Int32) : Option (Int32 × wg_M) :=
  if (M.1 55 28) = 0 then (
    bd (f_X9_next N M ) fun M12 =>
    some (x2, M12))
  else (
    some (x2, M))
def f_X9_part_j34 (N : Nat) (M : wg_M)  (s0 : Int32) : Option (Int32 × wg_M) :=
  bd (f_X9_isSign M (59 : Int32)) fun r8 =>
  if r8 = 0 then (
    bd (f_X9_fail M ) fun M14 =>
    f_X9_part_j48 N M14  s0)
  else (
    f_X9_part_j48 N M  s0)
def f_X9_part_j19 (N : Nat) (M : wg_M)   : Option (Int32 × wg_M) :=
  if (M.1 55 28) = 0 then (
    bd2 (f_X9_either_e N M ) fun r5 M6 =>
    f_X9_part_j34 N M6  r5)
  else (
    f_X9_part_j34 N M  (0 : Int32))
def f_X9_part_j8 (N : Nat) (M : wg_M)   : Option (Int32 × wg_M) :=
  if (M.1 55 28) = 0 then (
    bd (f_X9_next N M ) fun M16 =>
    f_X9_part_j19 N M16  )
  else (
    f_X9_part_j19 N M  )
def f_X9_part (N : Nat) (M : wg_M) (p1 : Int32) : Option (Int32 × wg_M) :=
  if p1 = 0 then (
    bd (f_X9_fail M ) fun M18 =>
    f_X9_part_j8 N M18  )
  else (
    f_X9_part_j8 N M  )
abbrev G_X9_part (p : Program) (l : Launch) (e : Env) (s : State) (m : MethodId) (args : Array Value) (below : List Frame) (meth : Method) (c : Code) (E : wg_Ev) (ad : Nat → Nat) (S : wg_Sh) (r0 : Int32) (C0 : wg_C) (M0 : wg_M) (pc : Nat) (C : wg_C) (M : wg_M) (lv : List (Nat × Value)) (st : List Value) : Prop := wg_G p l e (wg_Rm 73 2882) s m args below meth c (MQ below (wg_Qi E ad S r0 C0 M0) args s 0 0 (wg_A E)) 3 E ad S 0 0 pc C M lv st
set_option maxHeartbeats 4000000 in
set_option maxRecDepth 100000 in
theorem J_X9_part_j48 {p : Program} {l : Launch} {e : Env} {s : State} {m : MethodId} {args : Array Value} {below : List Frame} {meth : Method} {c : Code} {E : wg_Ev} {ad : Nat → Nat} {S : wg_Sh} (X : wg_X p s m args meth c cX9_part 3 RX9 E) (hr : meth.sig.returnType = (some .int)) (hS : wg_SM S) (r0 : Int32) (D0 : wg_M) (C : wg_C) (N : Nat)  (M : wg_M)  (x2 : Int32)   (h : f_X9_part_j48 N M  x2 = some (r0, D0)) : G_X9_part p l e s m args below meth c E ad S r0 C D0 48 C M [(0, .ref (ad 55)), (2, .int x2)] [] := by
  unfold f_X9_part_j48 at h
  refine wg_aload_n X 0 dX9_part_48 rfl rfl ?_
  refine wg_getM X cl9 (SMi hS 55 9 rfl) 28 (by decide) dX9_part_49 k_910 rfl ?_
  refine wg_if_ne X 59 dX9_part_52 (by decide) (fun c10 => ?_) (fun c10 => ?_)
  · have h := if_f c10 h
    refine wg_iload_n X 1 dX9_part_59 rfl rfl ?_
    exact wg_iret X ⟨(Prod.mk.inj (sm_inj h)).1, rfl, (Prod.mk.inj (sm_inj h)).2⟩ hr dX9_part_60
  · have h := if_t c10 h
    refine wg_aload_n X 0 dX9_part_55 rfl rfl ?_
    obtain ⟨M12, h11, h⟩ := bd_some h
    refine wg_callVv (As := []) (rest := []) X (c_X9_next l E ad S hS N C M   h11) T_yX9_next k_1083 cl9 (SMi hS 55 9 rfl) dX9_part_56 rfl rfl (Nat.le_of_ble_eq_true rfl) ⟨Nat.le_of_ble_eq_true rfl, Nat.le_of_ble_eq_true rfl⟩ ⟨Nat.zero_le _, Nat.zero_le _⟩ ?_
    refine wg_iload_n X 1 dX9_part_59 rfl rfl ?_
    exact wg_iret X ⟨(Prod.mk.inj (sm_inj h)).1, rfl, (Prod.mk.inj (sm_inj h)).2⟩ hr dX9_part_60
set_option maxHeartbeats 4000000 in
set_option maxRecDepth 100000 in
theorem J_X9_part_j34 {p : Program} {l : Launch} {e : Env} {s : State} {m : MethodId} {args : Array Value} {below : List Frame} {meth : Method} {c : Code} {E : wg_Ev} {ad : Nat → Nat} {S : wg_Sh} (X : wg_X p s m args meth c cX9_part 3 RX9 E) (hr : meth.sig.returnType = (some .int)) (hS : wg_SM S) (r0 : Int32) (D0 : wg_M) (C : wg_C) (N : Nat)  (M : wg_M)  (s0 : Int32)   (h : f_X9_part_j34 N M  s0 = some (r0, D0)) : G_X9_part p l e s m args below meth c E ad S r0 C D0 34 C M [(0, .ref (ad 55))] [.int s0] := by
  unfold f_X9_part_j34 at h
  refine wg_istore_n (lv' := [(2, .int s0), (0, .ref (ad 55))]) X dX9_part_34 rfl rfl (by decide) rfl ?_
  refine wg_aload_n X 1 dX9_part_35 rfl rfl ?_
  refine wg_bipush (v := 59) X dX9_part_36 (by decide) ?_
  obtain ⟨r8, h7, h⟩ := bd_some h
  refine wg_callVi (As := [.int (59 : Int32)]) (rest := []) X (c_X9_isSign l E ad S hS C M (59 : Int32)  h7) T_yX9_isSign k_1140 cl9 (SMi hS 55 9 rfl) dX9_part_38 rfl rfl (Nat.le_of_ble_eq_true rfl) ⟨Nat.le_of_ble_eq_true rfl, Nat.le_of_ble_eq_true rfl⟩ ⟨Nat.zero_le _, Nat.zero_le _⟩ ?_
  refine wg_if_ne X 48 dX9_part_41 (by decide) (fun c9 => ?_) (fun c9 => ?_)
  · have h := if_f c9 h
    refine wg_pick [1, 0] (lv' := [(0, .ref (ad 55)), (2, .int s0)]) rfl ?_
    exact J_X9_part_j48 X hr hS r0 D0 C N  M  s0   h
  · have h := if_t c9 h
    refine wg_aload_n X 1 dX9_part_44 rfl rfl ?_
    obtain ⟨M14, h13, h⟩ := bd_some h
    refine wg_callVv (As := []) (rest := []) X (c_X9_fail l E ad S hS C M   h13) T_yX9_fail k_1108 cl9 (SMi hS 55 9 rfl) dX9_part_45 rfl rfl (Nat.le_of_ble_eq_true rfl) ⟨Nat.le_of_ble_eq_true rfl, Nat.le_of_ble_eq_true rfl⟩ ⟨Nat.zero_le _, Nat.zero_le _⟩ ?_
    refine wg_pick [1, 0] (lv' := [(0, .ref (ad 55)), (2, .int s0)]) rfl ?_
    exact J_X9_part_j48 X hr hS r0 D0 C N  M14  s0   h
set_option maxHeartbeats 4000000 in
set_option maxRecDepth 100000 in
theorem J_X9_part_j19 {p : Program} {l : Launch} {e : Env} {s : State} {m : MethodId} {args : Array Value} {below : List Frame} {meth : Method} {c : Code} {E : wg_Ev} {ad : Nat → Nat} {S : wg_Sh} (X : wg_X p s m args meth c cX9_part 3 RX9 E) (hr : meth.sig.returnType = (some .int)) (hS : wg_SM S) (r0 : Int32) (D0 : wg_M) (C : wg_C) (N : Nat)  (M : wg_M)     (h : f_X9_part_j19 N M   = some (r0, D0)) : G_X9_part p l e s m args below meth c E ad S r0 C D0 19 C M [(0, .ref (ad 55))] [] := by
  unfold f_X9_part_j19 at h
  refine wg_aload_n X 0 dX9_part_19 rfl rfl ?_
  refine wg_getM X cl9 (SMi hS 55 9 rfl) 28 (by decide) dX9_part_20 k_910 rfl ?_
  refine wg_if_eq X 30 dX9_part_23 (by decide) (fun c3 => ?_) (fun c3 => ?_)
  · have h := if_t c3 h
    refine wg_aload_n X 0 dX9_part_30 rfl rfl ?_
    obtain ⟨r5, M6, h4, h⟩ := bd2_some h
    refine wg_callVi (As := []) (rest := []) X (c_X9_either_e l E ad S hS N C M   h4) T_yX9_either k_1112 cl9 (SMi hS 55 9 rfl) dX9_part_31 rfl rfl (Nat.le_of_ble_eq_true rfl) ⟨Nat.le_of_ble_eq_true rfl, Nat.le_of_ble_eq_true rfl⟩ ⟨Nat.zero_le _, Nat.zero_le _⟩ ?_
    exact J_X9_part_j34 X hr hS r0 D0 C N  M6  r5   h
  · have h := if_f c3 h
    refine wg_iconst (v := 0) X dX9_part_26 (by decide) ?_
    refine wg_goto X 34 dX9_part_27 (by decide) ?_
    exact J_X9_part_j34 X hr hS r0 D0 C N  M  (0 : Int32)   h
set_option maxHeartbeats 4000000 in
set_option maxRecDepth 100000 in
theorem J_X9_part_j8 {p : Program} {l : Launch} {e : Env} {s : State} {m : MethodId} {args : Array Value} {below : List Frame} {meth : Method} {c : Code} {E : wg_Ev} {ad : Nat → Nat} {S : wg_Sh} (X : wg_X p s m args meth c cX9_part 3 RX9 E) (hr : meth.sig.returnType = (some .int)) (hS : wg_SM S) (r0 : Int32) (D0 : wg_M) (C : wg_C) (N : Nat)  (M : wg_M)     (h : f_X9_part_j8 N M   = some (r0, D0)) : G_X9_part p l e s m args below meth c E ad S r0 C D0 8 C M [(0, .ref (ad 55))] [] := by
  unfold f_X9_part_j8 at h
  refine wg_aload_n X 0 dX9_part_8 rfl rfl ?_
  refine wg_getM X cl9 (SMi hS 55 9 rfl) 28 (by decide) dX9_part_9 k_910 rfl ?_
  refine wg_if_ne X 19 dX9_part_12 (by decide) (fun c2 => ?_) (fun c2 => ?_)
  · have h := if_f c2 h
    exact J_X9_part_j19 X hr hS r0 D0 C N  M     h
  · have h := if_t c2 h
    refine wg_aload_n X 0 dX9_part_15 rfl rfl ?_
    obtain ⟨M16, h15, h⟩ := bd_some h
    refine wg_callVv (As := []) (rest := []) X (c_X9_next l E ad S hS N C M   h15) T_yX9_next k_1083 cl9 (SMi hS 55 9 rfl) dX9_part_16 rfl rfl (Nat.le_of_ble_eq_true rfl) ⟨Nat.le_of_ble_eq_true rfl, Nat.le_of_ble_eq_true rfl⟩ ⟨Nat.zero_le _, Nat.zero_le _⟩ ?_
    exact J_X9_part_j19 X hr hS r0 D0 C N  M16     h
set_option maxHeartbeats 4000000 in
set_option maxRecDepth 100000 in
theorem c_X9_part (l : Launch) (E : wg_Ev) (ad : Nat → Nat) (S : wg_Sh) (hS : wg_SM S) (N : Nat) (C : wg_C) (M : wg_M) (p1 : Int32)  {r0 : Int32} {D0 : wg_M} (h : f_X9_part N M p1 = some (r0, D0)) : wg_Ci l yX9_part cX9_part 3 (some .int) 73 2882 E ad S C M [.ref (ad 55), .int p1] r0 C D0 := by
  refine wg_start (own := RX9) (by decide +kernel) rfl (Nat.le_of_ble_eq_true rfl) ?_
  intro p e s m below meth c X hr hnm
  refine wg_lv (lv' := [(0, .ref (ad 55)), (1, .int p1)]) rfl ?_
  unfold f_X9_part at h
  refine wg_iload_n X 1 dX9_part_0 rfl rfl ?_
  refine wg_if_ne X 8 dX9_part_1 (by decide) (fun c1 => ?_) (fun c1 => ?_)
  · have h := if_f c1 h
    refine wg_pick [0] (lv' := [(0, .ref (ad 55))]) rfl ?_
    exact J_X9_part_j8 X hr hS r0 D0 C N  M     h
  · have h := if_t c1 h
    refine wg_aload_n X 0 dX9_part_4 rfl rfl ?_
    obtain ⟨M18, h17, h⟩ := bd_some h
    refine wg_callVv (As := []) (rest := []) X (c_X9_fail l E ad S hS C M   h17) T_yX9_fail k_1108 cl9 (SMi hS 55 9 rfl) dX9_part_5 rfl rfl (Nat.le_of_ble_eq_true rfl) ⟨Nat.le_of_ble_eq_true rfl, Nat.le_of_ble_eq_true rfl⟩ ⟨Nat.zero_le _, Nat.zero_le _⟩ ?_
    refine wg_pick [0] (lv' := [(0, .ref (ad 55))]) rfl ?_
    exact J_X9_part_j8 X hr hS r0 D0 C N  M18     h
-- WindowsGiveModel.read(II)I (('c', 55), 'i', 'i')
def f_X9_read_j145 (N : Nat) (M : wg_M)  (x2 : Int32) (x3 : Int32) (x4 : Int32) (x5 : Int32) : Option (Int32 × wg_M) :=
  if x2 = 0 then (
    some (x3, M))
  else (
    if x2 = (1 : Int32) then (
      some (x4, M))
    else (
      some (x5, M)))
def f_X9_read_j125 (N : Nat) (M : wg_M)  (x2 : Int32) (x3 : Int32) (x4 : Int32) (s0 : Int32) : Option (Int32 × wg_M) :=
  if (M.1 55 28) = 0 then (
    if (M.1 55 24) = 0 then (
      f_X9_read_j145 N M  x2 x3 x4 s0)
    else (
      bd (f_X9_fail M ) fun M36 =>
      f_X9_read_j145 N M36  x2 x3 x4 s0))
  else (
    f_X9_read_j145 N M  x2 x3 x4 s0)
def f_X9_read_j91 (N : Nat) (M : wg_M)  (x2 : Int32) (x3 : Int32) (s0 : Int32) : Option (Int32 × wg_M) :=
  if (M.1 55 28) = 0 then (
    bd (f_X9_isWord M (112 : Int32) (114 : Int32) (105 : Int32) (99 : Int32) (101 : Int32) (0 : Int32) (0 : Int32) (0 : Int32)) fun r27 =>
    bd2 (f_X9_part N M r27) fun r29 M30 =>
    f_X9_read_j125 N M30  x2 x3 s0 r29)
  else (
    f_X9_read_j125 N M  x2 x3 s0 (0 : Int32))
def f_X9_read (N : Nat) (M : wg_M) (p1 : Int32) (p2 : Int32) : Option (Int32 × wg_M) :=
  lt_ (wg_sM M 55 21 ((160 : Int32) * p1)) fun M1 =>
  ck (inb p1 6) <|
  lt_ (wg_sM M1 55 22 (M1.1 57 p1.toNatClampNeg)) fun M4 =>
  lt_ (wg_sM M4 55 23 (0 : Int32)) fun M6 =>
  lt_ (wg_sM M6 55 27 (0 : Int32)) fun M8 =>
  lt_ (wg_sM M8 55 28 (0 : Int32)) fun M10 =>
  bd (f_X9_next N M10 ) fun M13 =>
  bd (f_X9_isWord M13 (99 : Int32) (111 : Int32) (115 : Int32) (116 : Int32) (115 : Int32) (0 : Int32) (0 : Int32) (0 : Int32)) fun r15 =>
  bd2 (f_X9_part N M13 r15) fun r17 M18 =>
  if (M18.1 55 28) = 0 then (
    bd (f_X9_isWord M18 (119 : Int32) (101 : Int32) (116 : Int32) (115 : Int32) (0 : Int32) (0 : Int32) (0 : Int32) (0 : Int32)) fun r21 =>
    bd2 (f_X9_part N M18 r21) fun r23 M24 =>
    f_X9_read_j91 N M24  p2 r17 r23)
  else (
    f_X9_read_j91 N M18  p2 r17 (0 : Int32))
abbrev G_X9_read (p : Program) (l : Launch) (e : Env) (s : State) (m : MethodId) (args : Array Value) (below : List Frame) (meth : Method) (c : Code) (E : wg_Ev) (ad : Nat → Nat) (S : wg_Sh) (r0 : Int32) (C0 : wg_C) (M0 : wg_M) (pc : Nat) (C : wg_C) (M : wg_M) (lv : List (Nat × Value)) (st : List Value) : Prop := wg_G p l e (wg_Rm 74 2904) s m args below meth c (MQ below (wg_Qi E ad S r0 C0 M0) args s 0 0 (wg_A E)) 6 E ad S 0 0 pc C M lv st
set_option maxHeartbeats 4000000 in
set_option maxRecDepth 100000 in
theorem J_X9_read_j145 {p : Program} {l : Launch} {e : Env} {s : State} {m : MethodId} {args : Array Value} {below : List Frame} {meth : Method} {c : Code} {E : wg_Ev} {ad : Nat → Nat} {S : wg_Sh} (X : wg_X p s m args meth c cX9_read 6 RX9 E) (hr : meth.sig.returnType = (some .int)) (hS : wg_SM S) (r0 : Int32) (D0 : wg_M) (C : wg_C) (N : Nat)  (M : wg_M)  (x2 : Int32) (x3 : Int32) (x4 : Int32) (x5 : Int32)   (h : f_X9_read_j145 N M  x2 x3 x4 x5 = some (r0, D0)) : G_X9_read p l e s m args below meth c E ad S r0 C D0 145 C M [(2, .int x2), (3, .int x3), (4, .int x4), (5, .int x5)] [] := by
  unfold f_X9_read_j145 at h
  refine wg_iload_n X 0 dX9_read_145 rfl rfl ?_
  refine wg_if_ne X 153 dX9_read_146 (by decide) (fun c32 => ?_) (fun c32 => ?_)
  · have h := if_f c32 h
    refine wg_iload_n X 0 dX9_read_153 rfl rfl ?_
    refine wg_iconst (v := 1) X dX9_read_154 (by decide) ?_
    refine wg_icmp_ne X 163 dX9_read_155 (by decide) (fun c33 => ?_) (fun c33 => ?_)
    · have h := if_f c33 h
      refine wg_iload X 3 dX9_read_163 rfl ?_
      exact wg_iret X ⟨(Prod.mk.inj (sm_inj h)).1, rfl, (Prod.mk.inj (sm_inj h)).2⟩ hr dX9_read_165
    · have h := if_t c33 h
      refine wg_iload X 2 dX9_read_158 rfl ?_
      refine wg_goto X 165 dX9_read_160 (by decide) ?_
      exact wg_iret X ⟨(Prod.mk.inj (sm_inj h)).1, rfl, (Prod.mk.inj (sm_inj h)).2⟩ hr dX9_read_165
  · have h := if_t c32 h
    refine wg_iload_n X 1 dX9_read_149 rfl rfl ?_
    refine wg_goto X 165 dX9_read_150 (by decide) ?_
    exact wg_iret X ⟨(Prod.mk.inj (sm_inj h)).1, rfl, (Prod.mk.inj (sm_inj h)).2⟩ hr dX9_read_165
set_option maxHeartbeats 4000000 in
set_option maxRecDepth 100000 in
theorem J_X9_read_j125 {p : Program} {l : Launch} {e : Env} {s : State} {m : MethodId} {args : Array Value} {below : List Frame} {meth : Method} {c : Code} {E : wg_Ev} {ad : Nat → Nat} {S : wg_Sh} (X : wg_X p s m args meth c cX9_read 6 RX9 E) (hr : meth.sig.returnType = (some .int)) (hS : wg_SM S) (r0 : Int32) (D0 : wg_M) (C : wg_C) (N : Nat)  (M : wg_M)  (x2 : Int32) (x3 : Int32) (x4 : Int32) (s0 : Int32)   (h : f_X9_read_j125 N M  x2 x3 x4 s0 = some (r0, D0)) : G_X9_read p l e s m args below meth c E ad S r0 C D0 125 C M [(0, .ref (ad 55)), (2, .int x2), (3, .int x3), (4, .int x4)] [.int s0] := by
  unfold f_X9_read_j125 at h
  refine wg_istore (lv' := [(5, .int s0), (0, .ref (ad 55)), (2, .int x2), (3, .int x3), (4, .int x4)]) X dX9_read_125 rfl (by decide) rfl ?_
  refine wg_aload_n X 1 dX9_read_127 rfl rfl ?_
  refine wg_getM X cl9 (SMi hS 55 9 rfl) 28 (by decide) dX9_read_128 k_910 rfl ?_
  refine wg_if_ne X 145 dX9_read_131 (by decide) (fun c31 => ?_) (fun c31 => ?_)
  · have h := if_f c31 h
    refine wg_pick [2, 3, 4, 0] (lv' := [(2, .int x2), (3, .int x3), (4, .int x4), (5, .int s0)]) rfl ?_
    exact J_X9_read_j145 X hr hS r0 D0 C N  M  x2 x3 x4 s0   h
  · have h := if_t c31 h
    refine wg_aload_n X 1 dX9_read_134 rfl rfl ?_
    refine wg_getM X cl9 (SMi hS 55 9 rfl) 24 (by decide) dX9_read_135 k_906 rfl ?_
    refine wg_if_eq X 145 dX9_read_138 (by decide) (fun c34 => ?_) (fun c34 => ?_)
    · have h := if_t c34 h
      refine wg_pick [2, 3, 4, 0] (lv' := [(2, .int x2), (3, .int x3), (4, .int x4), (5, .int s0)]) rfl ?_
      exact J_X9_read_j145 X hr hS r0 D0 C N  M  x2 x3 x4 s0   h
    · have h := if_f c34 h
      refine wg_aload_n X 1 dX9_read_141 rfl rfl ?_
      obtain ⟨M36, h35, h⟩ := bd_some h
      refine wg_callVv (As := []) (rest := []) X (c_X9_fail l E ad S hS C M   h35) T_yX9_fail k_1108 cl9 (SMi hS 55 9 rfl) dX9_read_142 rfl rfl (Nat.le_of_ble_eq_true rfl) ⟨Nat.le_of_ble_eq_true rfl, Nat.le_of_ble_eq_true rfl⟩ ⟨Nat.zero_le _, Nat.zero_le _⟩ ?_
      refine wg_pick [2, 3, 4, 0] (lv' := [(2, .int x2), (3, .int x3), (4, .int x4), (5, .int s0)]) rfl ?_
      exact J_X9_read_j145 X hr hS r0 D0 C N  M36  x2 x3 x4 s0   h
set_option maxHeartbeats 4000000 in
set_option maxRecDepth 100000 in
theorem J_X9_read_j91 {p : Program} {l : Launch} {e : Env} {s : State} {m : MethodId} {args : Array Value} {below : List Frame} {meth : Method} {c : Code} {E : wg_Ev} {ad : Nat → Nat} {S : wg_Sh} (X : wg_X p s m args meth c cX9_read 6 RX9 E) (hr : meth.sig.returnType = (some .int)) (hS : wg_SM S) (r0 : Int32) (D0 : wg_M) (C : wg_C) (N : Nat)  (M : wg_M)  (x2 : Int32) (x3 : Int32) (s0 : Int32)   (h : f_X9_read_j91 N M  x2 x3 s0 = some (r0, D0)) : G_X9_read p l e s m args below meth c E ad S r0 C D0 91 C M [(0, .ref (ad 55)), (2, .int x2), (3, .int x3)] [.int s0] := by
  unfold f_X9_read_j91 at h
  refine wg_istore (lv' := [(4, .int s0), (0, .ref (ad 55)), (2, .int x2), (3, .int x3)]) X dX9_read_91 rfl (by decide) rfl ?_
  refine wg_aload_n X 1 dX9_read_93 rfl rfl ?_
  refine wg_getM X cl9 (SMi hS 55 9 rfl) 28 (by decide) dX9_read_94 k_910 rfl ?_
  refine wg_if_eq X 104 dX9_read_97 (by decide) (fun c25 => ?_) (fun c25 => ?_)
  · have h := if_t c25 h
    refine wg_aload_n X 1 dX9_read_104 rfl rfl ?_
    refine wg_aload_n X 1 dX9_read_105 rfl rfl ?_
    refine wg_bipush (v := 112) X dX9_read_106 (by decide) ?_
    refine wg_bipush (v := 114) X dX9_read_108 (by decide) ?_
    refine wg_bipush (v := 105) X dX9_read_110 (by decide) ?_
    refine wg_bipush (v := 99) X dX9_read_112 (by decide) ?_
    refine wg_bipush (v := 101) X dX9_read_114 (by decide) ?_
    refine wg_iconst (v := 0) X dX9_read_116 (by decide) ?_
    refine wg_iconst (v := 0) X dX9_read_117 (by decide) ?_
    refine wg_iconst (v := 0) X dX9_read_118 (by decide) ?_
    obtain ⟨r27, h26, h⟩ := bd_some h
    refine wg_callVi (As := [.int (112 : Int32), .int (114 : Int32), .int (105 : Int32), .int (99 : Int32), .int (101 : Int32), .int (0 : Int32), .int (0 : Int32), .int (0 : Int32)]) (rest := [.ref (ad 55)]) X (c_X9_isWord l E ad S hS C M (112 : Int32) (114 : Int32) (105 : Int32) (99 : Int32) (101 : Int32) (0 : Int32) (0 : Int32) (0 : Int32)  h26) T_yX9_isWord k_1096 cl9 (SMi hS 55 9 rfl) dX9_read_119 rfl rfl (Nat.le_of_ble_eq_true rfl) ⟨Nat.le_of_ble_eq_true rfl, Nat.le_of_ble_eq_true rfl⟩ ⟨Nat.zero_le _, Nat.zero_le _⟩ ?_
    obtain ⟨r29, M30, h28, h⟩ := bd2_some h
    refine wg_callVi (As := [.int r27]) (rest := []) X (c_X9_part l E ad S hS N C M r27  h28) T_yX9_part k_1104 cl9 (SMi hS 55 9 rfl) dX9_read_122 rfl rfl (Nat.le_of_ble_eq_true rfl) ⟨Nat.le_of_ble_eq_true rfl, Nat.le_of_ble_eq_true rfl⟩ ⟨Nat.zero_le _, Nat.zero_le _⟩ ?_
    refine wg_pick [1, 2, 3, 0] (lv' := [(0, .ref (ad 55)), (2, .int x2), (3, .int x3), (4, .int s0)]) rfl ?_
    exact J_X9_read_j125 X hr hS r0 D0 C N  M30  x2 x3 s0 r29   h
  · have h := if_f c25 h
    refine wg_iconst (v := 0) X dX9_read_100 (by decide) ?_
    refine wg_goto X 125 dX9_read_101 (by decide) ?_
    refine wg_pick [1, 2, 3, 0] (lv' := [(0, .ref (ad 55)), (2, .int x2), (3, .int x3), (4, .int s0)]) rfl ?_
    exact J_X9_read_j125 X hr hS r0 D0 C N  M  x2 x3 s0 (0 : Int32)   h
set_option maxHeartbeats 4000000 in
set_option maxRecDepth 100000 in
theorem c_X9_read (l : Launch) (E : wg_Ev) (ad : Nat → Nat) (S : wg_Sh) (hS : wg_SM S) (N : Nat) (C : wg_C) (M : wg_M) (p1 : Int32) (p2 : Int32)  {r0 : Int32} {D0 : wg_M} (h : f_X9_read N M p1 p2 = some (r0, D0)) : wg_Ci l yX9_read cX9_read 6 (some .int) 74 2904 E ad S C M [.ref (ad 55), .int p1, .int p2] r0 C D0 := by
  refine wg_start (own := RX9) (by decide +kernel) rfl (Nat.le_of_ble_eq_true rfl) ?_
  intro p e s m below meth c X hr hnm
  refine wg_lv (lv' := [(0, .ref (ad 55)), (1, .int p1), (2, .int p2)]) rfl ?_
  unfold f_X9_read at h
  refine wg_aload_n X 0 dX9_read_0 rfl rfl ?_
  refine wg_sipush (v := 160) X dX9_read_1 (by decide) ?_
  refine wg_iload_n X 1 dX9_read_4 rfl rfl ?_
  refine wg_imul X dX9_read_5 ?_
  obtain ⟨M1, e2, h⟩ := lt_some h
  refine wg_putMe X cl9 (SMi hS 55 9 rfl) 21 (by decide) dX9_read_6 k_903 rfl rfl rfl rfl e2 ?_
  refine wg_aload_n X 0 dX9_read_9 rfl rfl ?_
  refine wg_aload_n X 0 dX9_read_10 rfl rfl ?_
  refine wg_getR (b := 57) X cl9 (SMi hS 55 9 rfl) 2 (by decide) dX9_read_11 k_884 rfl (SMr hS 2 57 rfl) ?_
  refine wg_iload_n X 1 dX9_read_14 rfl rfl ?_
  obtain ⟨z3, h⟩ := ck_some h
  refine wg_mald X (SMi hS 57 11 rfl) (SMl hS 57 6 rfl) z3 dX9_read_15 ?_
  obtain ⟨M4, e5, h⟩ := lt_some h
  refine wg_putMe X cl9 (SMi hS 55 9 rfl) 22 (by decide) dX9_read_16 k_904 rfl rfl rfl rfl e5 ?_
  refine wg_aload_n X 0 dX9_read_19 rfl rfl ?_
  refine wg_iconst (v := 0) X dX9_read_20 (by decide) ?_
  obtain ⟨M6, e7, h⟩ := lt_some h
  refine wg_putMe X cl9 (SMi hS 55 9 rfl) 23 (by decide) dX9_read_21 k_905 rfl rfl rfl rfl e7 ?_
  refine wg_aload_n X 0 dX9_read_24 rfl rfl ?_
  refine wg_iconst (v := 0) X dX9_read_25 (by decide) ?_
  obtain ⟨M8, e9, h⟩ := lt_some h
  refine wg_putMe X cl9 (SMi hS 55 9 rfl) 27 (by decide) dX9_read_26 k_909 rfl rfl rfl rfl e9 ?_
  refine wg_aload_n X 0 dX9_read_29 rfl rfl ?_
  refine wg_iconst (v := 0) X dX9_read_30 (by decide) ?_
  obtain ⟨M10, e11, h⟩ := lt_some h
  refine wg_putMe X cl9 (SMi hS 55 9 rfl) 28 (by decide) dX9_read_31 k_910 rfl rfl (by decide) (by decide) e11 ?_
  refine wg_aload_n X 0 dX9_read_34 rfl rfl ?_
  obtain ⟨M13, h12, h⟩ := bd_some h
  refine wg_callVv (As := []) (rest := []) X (c_X9_next l E ad S hS N C M10   h12) T_yX9_next k_1083 cl9 (SMi hS 55 9 rfl) dX9_read_35 rfl rfl (Nat.le_of_ble_eq_true rfl) ⟨Nat.le_of_ble_eq_true rfl, Nat.le_of_ble_eq_true rfl⟩ ⟨Nat.zero_le _, Nat.zero_le _⟩ ?_
  refine wg_aload_n X 0 dX9_read_38 rfl rfl ?_
  refine wg_aload_n X 0 dX9_read_39 rfl rfl ?_
  refine wg_bipush (v := 99) X dX9_read_40 (by decide) ?_
  refine wg_bipush (v := 111) X dX9_read_42 (by decide) ?_
  refine wg_bipush (v := 115) X dX9_read_44 (by decide) ?_
  refine wg_bipush (v := 116) X dX9_read_46 (by decide) ?_
  refine wg_bipush (v := 115) X dX9_read_48 (by decide) ?_
  refine wg_iconst (v := 0) X dX9_read_50 (by decide) ?_
  refine wg_iconst (v := 0) X dX9_read_51 (by decide) ?_
  refine wg_iconst (v := 0) X dX9_read_52 (by decide) ?_
  obtain ⟨r15, h14, h⟩ := bd_some h
  refine wg_callVi (As := [.int (99 : Int32), .int (111 : Int32), .int (115 : Int32), .int (116 : Int32), .int (115 : Int32), .int (0 : Int32), .int (0 : Int32), .int (0 : Int32)]) (rest := [.ref (ad 55)]) X (c_X9_isWord l E ad S hS C M13 (99 : Int32) (111 : Int32) (115 : Int32) (116 : Int32) (115 : Int32) (0 : Int32) (0 : Int32) (0 : Int32)  h14) T_yX9_isWord k_1096 cl9 (SMi hS 55 9 rfl) dX9_read_53 rfl rfl (Nat.le_of_ble_eq_true rfl) ⟨Nat.le_of_ble_eq_true rfl, Nat.le_of_ble_eq_true rfl⟩ ⟨Nat.zero_le _, Nat.zero_le _⟩ ?_
  obtain ⟨r17, M18, h16, h⟩ := bd2_some h
  refine wg_callVi (As := [.int r15]) (rest := []) X (c_X9_part l E ad S hS N C M13 r15  h16) T_yX9_part k_1104 cl9 (SMi hS 55 9 rfl) dX9_read_56 rfl rfl (Nat.le_of_ble_eq_true rfl) ⟨Nat.le_of_ble_eq_true rfl, Nat.le_of_ble_eq_true rfl⟩ ⟨Nat.zero_le _, Nat.zero_le _⟩ ?_
  refine wg_istore_n (lv' := [(3, .int r17), (0, .ref (ad 55)), (1, .int p1), (2, .int p2)]) X dX9_read_59 rfl rfl (by decide) rfl ?_
  refine wg_aload_n X 1 dX9_read_60 rfl rfl ?_
  refine wg_getM X cl9 (SMi hS 55 9 rfl) 28 (by decide) dX9_read_61 k_910 rfl ?_
  refine wg_if_eq X 71 dX9_read_64 (by decide) (fun c19 => ?_) (fun c19 => ?_)
  · have h := if_t c19 h
    refine wg_aload_n X 1 dX9_read_71 rfl rfl ?_
    refine wg_aload_n X 1 dX9_read_72 rfl rfl ?_
    refine wg_bipush (v := 119) X dX9_read_73 (by decide) ?_
    refine wg_bipush (v := 101) X dX9_read_75 (by decide) ?_
    refine wg_bipush (v := 116) X dX9_read_77 (by decide) ?_
    refine wg_bipush (v := 115) X dX9_read_79 (by decide) ?_
    refine wg_iconst (v := 0) X dX9_read_81 (by decide) ?_
    refine wg_iconst (v := 0) X dX9_read_82 (by decide) ?_
    refine wg_iconst (v := 0) X dX9_read_83 (by decide) ?_
    refine wg_iconst (v := 0) X dX9_read_84 (by decide) ?_
    obtain ⟨r21, h20, h⟩ := bd_some h
    refine wg_callVi (As := [.int (119 : Int32), .int (101 : Int32), .int (116 : Int32), .int (115 : Int32), .int (0 : Int32), .int (0 : Int32), .int (0 : Int32), .int (0 : Int32)]) (rest := [.ref (ad 55)]) X (c_X9_isWord l E ad S hS C M18 (119 : Int32) (101 : Int32) (116 : Int32) (115 : Int32) (0 : Int32) (0 : Int32) (0 : Int32) (0 : Int32)  h20) T_yX9_isWord k_1096 cl9 (SMi hS 55 9 rfl) dX9_read_85 rfl rfl (Nat.le_of_ble_eq_true rfl) ⟨Nat.le_of_ble_eq_true rfl, Nat.le_of_ble_eq_true rfl⟩ ⟨Nat.zero_le _, Nat.zero_le _⟩ ?_
    obtain ⟨r23, M24, h22, h⟩ := bd2_some h
    refine wg_callVi (As := [.int r21]) (rest := []) X (c_X9_part l E ad S hS N C M18 r21  h22) T_yX9_part k_1104 cl9 (SMi hS 55 9 rfl) dX9_read_88 rfl rfl (Nat.le_of_ble_eq_true rfl) ⟨Nat.le_of_ble_eq_true rfl, Nat.le_of_ble_eq_true rfl⟩ ⟨Nat.zero_le _, Nat.zero_le _⟩ ?_
    refine wg_pick [1, 3, 0] (lv' := [(0, .ref (ad 55)), (2, .int p2), (3, .int r17)]) rfl ?_
    exact J_X9_read_j91 X hr hS r0 D0 C N  M24  p2 r17 r23   h
  · have h := if_f c19 h
    refine wg_iconst (v := 0) X dX9_read_67 (by decide) ?_
    refine wg_goto X 91 dX9_read_68 (by decide) ?_
    refine wg_pick [1, 3, 0] (lv' := [(0, .ref (ad 55)), (2, .int p2), (3, .int r17)]) rfl ?_
    exact J_X9_read_j91 X hr hS r0 D0 C N  M18  p2 r17 (0 : Int32)   h
-- WindowsGiveModel.text()I (('c', 55),)
def f_X9_text_l14 (N : Nat)   (M : wg_M) (x1 : Int32) : Option ((wg_M × Int32) ⊕ (wg_M × Int32)) :=
  if (M.1 55 6) ≤ x1 then (
    some (.inr (M, x1)))
  else (
    ck (inb x1 160) <|
    ck (inb (((160 : Int32) * (M.1 55 3)) + x1) 960) <|
    lt_ (wg_sM M 56 (((160 : Int32) * (M.1 55 3)) + x1).toNatClampNeg (M.1 58 x1.toNatClampNeg)) fun M5 =>
    lt_ (x1 + (1 : Int32)) fun v7 =>
    some (.inl (M5, v7)))
def f_X9_text (N : Nat) (M : wg_M)  : Option (Int32 × wg_M) :=
  if (M.1 55 3) = (6 : Int32) then (
    some ((-4 : Int32), M))
  else (
    bd2 (lp (fun o => f_X9_text_l14 N   o.1 o.2) N (M, (0 : Int32))) fun M9 v10 =>
    ck (inb (M9.1 55 3) 6) <|
    lt_ (wg_sM M9 57 (M9.1 55 3).toNatClampNeg (M9.1 55 6)) fun M16 =>
    lt_ (wg_sM M16 55 6 (0 : Int32)) fun M18 =>
    bd2 (f_X9_read N M18 (M18.1 55 3) (0 : Int32)) fun r21 M22 =>
    if (M22.1 55 28) = 0 then (
      lt_ (wg_sM M22 55 3 ((M22.1 55 3) + (1 : Int32))) fun M24 =>
      some (((M24.1 55 3) - (1 : Int32)), M24))
    else (
      some (((-100 : Int32) - (M22.1 55 29)), M22)))
abbrev G_X9_text (p : Program) (l : Launch) (e : Env) (s : State) (m : MethodId) (args : Array Value) (below : List Frame) (meth : Method) (c : Code) (E : wg_Ev) (ad : Nat → Nat) (S : wg_Sh) (r0 : Int32) (C0 : wg_C) (M0 : wg_M) (pc : Nat) (C : wg_C) (M : wg_M) (lv : List (Nat × Value)) (st : List Value) : Prop := wg_G p l e (wg_Rm 75 2929) s m args below meth c (MQ below (wg_Qi E ad S r0 C0 M0) args s 0 0 (wg_A E)) 2 E ad S 0 0 pc C M lv st
set_option maxHeartbeats 4000000 in
set_option maxRecDepth 100000 in
theorem L_X9_text_l14 {p : Program} {l : Launch} {e : Env} {s : State} {m : MethodId} {args : Array Value} {below : List Frame} {meth : Method} {c : Code} {E : wg_Ev} {ad : Nat → Nat} {S : wg_Sh} (X : wg_X p s m args meth c cX9_text 2 RX9 E) (hr : meth.sig.returnType = (some .int)) (hS : wg_SM S) (r0 : Int32) (D0 : wg_M) (C : wg_C) (N : Nat)     : ∀ (n : Nat) (M : wg_M) (x1 : Int32) (o : (wg_M × Int32)), lp (fun o => f_X9_text_l14 N   o.1 o.2) n (M, x1) = some o → (∀ (Dy : wg_M) (y1 : Int32), o = (Dy, y1) → G_X9_text p l e s m args below meth c E ad S r0 C D0 49 C Dy [(0, .ref (ad 55)), (1, .int y1)] []) → G_X9_text p l e s m args below meth c E ad S r0 C D0 14 C M [(0, .ref (ad 55)), (1, .int x1)] [] := by
  intro n
  induction n with
  | zero => exact fun _ _ o h => (lp_zero h).elim
  | succ n ih =>
    intro M x1 o h K
    obtain ⟨o1, hb, h2⟩ := lp_some h
    replace hb : f_X9_text_l14 N   M x1 = some o1 := hb
    clear h
    have Kc : ∀ (Dy : wg_M) (y1 : Int32), o1 = Sum.inl (Dy, y1) → G_X9_text p l e s m args below meth c E ad S r0 C D0 14 C Dy [(0, .ref (ad 55)), (1, .int y1)] [] := fun Dy y1 e1 => by
      subst e1
      exact ih Dy y1 o h2 K
    have Ke : ∀ (Dy : wg_M) (y1 : Int32), o1 = Sum.inr ((Dy, y1)) → G_X9_text p l e s m args below meth c E ad S r0 C D0 49 C Dy [(0, .ref (ad 55)), (1, .int y1)] [] := fun Dy y1 e1 => by
      subst e1
      exact K Dy y1 (sm_inj (α := (wg_M × Int32)) h2).symm
    clear ih K h2
    unfold f_X9_text_l14 at hb
    have h := hb
    clear hb
    refine wg_iload_n X 1 dX9_text_14 rfl rfl ?_
    refine wg_aload_n X 0 dX9_text_15 rfl rfl ?_
    refine wg_getM X cl9 (SMi hS 55 9 rfl) 6 (by decide) dX9_text_16 k_888 rfl ?_
    refine wg_icmp_ge X 49 dX9_text_19 (by decide) (fun c2 => ?_) (fun c2 => ?_)
    · have h := if_t c2 h
      exact Ke M x1 (sm_inj h).symm
    · have h := if_f c2 h
      refine wg_aload_n X 0 dX9_text_22 rfl rfl ?_
      refine wg_getR (b := 56) X cl9 (SMi hS 55 9 rfl) 1 (by decide) dX9_text_23 k_883 rfl (SMr hS 1 56 rfl) ?_
      refine wg_sipush (v := 160) X dX9_text_26 (by decide) ?_
      refine wg_aload_n X 0 dX9_text_29 rfl rfl ?_
      refine wg_getM X cl9 (SMi hS 55 9 rfl) 3 (by decide) dX9_text_30 k_885 rfl ?_
      refine wg_imul X dX9_text_33 ?_
      refine wg_iload_n X 1 dX9_text_34 rfl rfl ?_
      refine wg_iadd X dX9_text_35 ?_
      refine wg_aload_n X 0 dX9_text_36 rfl rfl ?_
      refine wg_getR (b := 58) X cl9 (SMi hS 55 9 rfl) 5 (by decide) dX9_text_37 k_887 rfl (SMr hS 5 58 rfl) ?_
      refine wg_iload_n X 1 dX9_text_40 rfl rfl ?_
      obtain ⟨z3, h⟩ := ck_some h
      refine wg_mald X (SMi hS 58 11 rfl) (SMl hS 58 160 rfl) z3 dX9_text_41 ?_
      obtain ⟨z4, h⟩ := ck_some h
      obtain ⟨M5, e6, h⟩ := lt_some h
      refine wg_maste X (SMi hS 56 11 rfl) (SMl hS 56 960 rfl) z4 dX9_text_42 e6 ?_
      obtain ⟨v7, e8, h⟩ := lt_some h
      refine wg_iinc (lv' := [(1, .int v7), (0, .ref (ad 55))]) X 1 dX9_text_43 rfl e8 (by decide) rfl ?_
      refine wg_goto X 14 dX9_text_46 (by decide) ?_
      refine wg_pick [1, 0] (lv' := [(0, .ref (ad 55)), (1, .int v7)]) rfl ?_
      exact Kc M5 v7 (sm_inj h).symm
set_option maxHeartbeats 4000000 in
set_option maxRecDepth 100000 in
theorem c_X9_text (l : Launch) (E : wg_Ev) (ad : Nat → Nat) (S : wg_Sh) (hS : wg_SM S) (N : Nat) (C : wg_C) (M : wg_M)   {r0 : Int32} {D0 : wg_M} (h : f_X9_text N M  = some (r0, D0)) : wg_Ci l yX9_text cX9_text 2 (some .int) 75 2929 E ad S C M [.ref (ad 55)] r0 C D0 := by
  refine wg_start (own := RX9) (by decide +kernel) rfl (Nat.le_of_ble_eq_true rfl) ?_
  intro p e s m below meth c X hr hnm
  refine wg_lv (lv' := [(0, .ref (ad 55))]) rfl ?_
  unfold f_X9_text at h
  refine wg_aload_n X 0 dX9_text_0 rfl rfl ?_
  refine wg_getM X cl9 (SMi hS 55 9 rfl) 3 (by decide) dX9_text_1 k_885 rfl ?_
  refine wg_bipush (v := 6) X dX9_text_4 (by decide) ?_
  refine wg_icmp_ne X 12 dX9_text_6 (by decide) (fun c1 => ?_) (fun c1 => ?_)
  · have h := if_f c1 h
    refine wg_iconst (v := 0) X dX9_text_12 (by decide) ?_
    refine wg_istore_n (lv' := [(1, .int (0 : Int32)), (0, .ref (ad 55))]) X dX9_text_13 rfl rfl (by decide) rfl ?_
    obtain ⟨o11, h12, h⟩ := bd2_o h
    refine wg_pick [1, 0] (lv' := [(0, .ref (ad 55)), (1, .int (0 : Int32))]) rfl ?_
    refine L_X9_text_l14 X hr hS r0 D0 C N     N M (0 : Int32) o11 h12 (fun M9 v10 e14 => ?_)
    · subst o11
      replace h := bd2_in h
      refine wg_aload_n X 0 dX9_text_49 rfl rfl ?_
      refine wg_getR (b := 57) X cl9 (SMi hS 55 9 rfl) 2 (by decide) dX9_text_50 k_884 rfl (SMr hS 2 57 rfl) ?_
      refine wg_aload_n X 0 dX9_text_53 rfl rfl ?_
      refine wg_getM X cl9 (SMi hS 55 9 rfl) 3 (by decide) dX9_text_54 k_885 rfl ?_
      refine wg_aload_n X 0 dX9_text_57 rfl rfl ?_
      refine wg_getM X cl9 (SMi hS 55 9 rfl) 6 (by decide) dX9_text_58 k_888 rfl ?_
      obtain ⟨z15, h⟩ := ck_some h
      obtain ⟨M16, e17, h⟩ := lt_some h
      refine wg_maste X (SMi hS 57 11 rfl) (SMl hS 57 6 rfl) z15 dX9_text_61 e17 ?_
      refine wg_aload_n X 0 dX9_text_62 rfl rfl ?_
      refine wg_iconst (v := 0) X dX9_text_63 (by decide) ?_
      obtain ⟨M18, e19, h⟩ := lt_some h
      refine wg_putMe X cl9 (SMi hS 55 9 rfl) 6 (by decide) dX9_text_64 k_888 rfl rfl rfl rfl e19 ?_
      refine wg_aload_n X 0 dX9_text_67 rfl rfl ?_
      refine wg_aload_n X 0 dX9_text_68 rfl rfl ?_
      refine wg_getM X cl9 (SMi hS 55 9 rfl) 3 (by decide) dX9_text_69 k_885 rfl ?_
      refine wg_iconst (v := 0) X dX9_text_72 (by decide) ?_
      obtain ⟨r21, M22, h20, h⟩ := bd2_some h
      refine wg_callVi (As := [.int (M18.1 55 3), .int (0 : Int32)]) (rest := []) X (c_X9_read l E ad S hS N C M18 (M18.1 55 3) (0 : Int32)  h20) T_yX9_read k_1079 cl9 (SMi hS 55 9 rfl) dX9_text_73 rfl rfl (Nat.le_of_ble_eq_true rfl) ⟨Nat.le_of_ble_eq_true rfl, Nat.le_of_ble_eq_true rfl⟩ ⟨Nat.zero_le _, Nat.zero_le _⟩ ?_
      refine wg_istore_n (lv' := [(1, .int r21), (0, .ref (ad 55))]) X dX9_text_76 rfl rfl (by decide) rfl ?_
      refine wg_aload_n X 1 dX9_text_77 rfl rfl ?_
      refine wg_getM X cl9 (SMi hS 55 9 rfl) 28 (by decide) dX9_text_78 k_910 rfl ?_
      refine wg_if_eq X 92 dX9_text_81 (by decide) (fun c23 => ?_) (fun c23 => ?_)
      · have h := if_t c23 h
        refine wg_aload_n X 1 dX9_text_92 rfl rfl ?_
        refine wg_dup X dX9_text_93 rfl ?_
        refine wg_getM X cl9 (SMi hS 55 9 rfl) 3 (by decide) dX9_text_94 k_885 rfl ?_
        refine wg_iconst (v := 1) X dX9_text_97 (by decide) ?_
        refine wg_iadd X dX9_text_98 ?_
        obtain ⟨M24, e25, h⟩ := lt_some h
        refine wg_putMe X cl9 (SMi hS 55 9 rfl) 3 (by decide) dX9_text_99 k_885 rfl rfl rfl rfl e25 ?_
        refine wg_aload_n X 1 dX9_text_102 rfl rfl ?_
        refine wg_getM X cl9 (SMi hS 55 9 rfl) 3 (by decide) dX9_text_103 k_885 rfl ?_
        refine wg_iconst (v := 1) X dX9_text_106 (by decide) ?_
        refine wg_isub X dX9_text_107 ?_
        exact wg_iret X ⟨(Prod.mk.inj (sm_inj h)).1, rfl, (Prod.mk.inj (sm_inj h)).2⟩ hr dX9_text_108
      · have h := if_f c23 h
        refine wg_bipush (v := -100) X dX9_text_84 (by decide) ?_
        refine wg_aload_n X 1 dX9_text_86 rfl rfl ?_
        refine wg_getM X cl9 (SMi hS 55 9 rfl) 29 (by decide) dX9_text_87 k_911 rfl ?_
        refine wg_isub X dX9_text_90 ?_
        exact wg_iret X ⟨(Prod.mk.inj (sm_inj h)).1, rfl, (Prod.mk.inj (sm_inj h)).2⟩ hr dX9_text_91
  · have h := if_t c1 h
    refine wg_bipush (v := -4) X dX9_text_9 (by decide) ?_
    exact wg_iret X ⟨(Prod.mk.inj (sm_inj h)).1, rfl, (Prod.mk.inj (sm_inj h)).2⟩ hr dX9_text_11
-- WindowsGiveModel.force(I)I (('c', 55), 'i')
def f_X9_force (M : wg_M) (p1 : Int32) : Option (Int32 × wg_M) :=
  bd (f_X9_in p1.toInt64 (0 : Int64) (((M.1 55 3) - (1 : Int32)).toInt64)) fun r2 =>
  if r2 = 0 then (
    some ((-2 : Int32), M))
  else (
    lt_ (M.1 55 4) fun v4 =>
    lt_ (wg_sM M 55 4 p1) fun M6 =>
    some (v4, M6))
set_option maxHeartbeats 4000000 in
set_option maxRecDepth 100000 in
theorem c_X9_force (l : Launch) (E : wg_Ev) (ad : Nat → Nat) (S : wg_Sh) (hS : wg_SM S) (C : wg_C) (M : wg_M) (p1 : Int32)  {r0 : Int32} {D0 : wg_M} (h : f_X9_force M p1 = some (r0, D0)) : wg_Ci l yX9_force cX9_force 3 (some .int) 1 25 E ad S C M [.ref (ad 55), .int p1] r0 C D0 := by
  refine wg_start (own := RX9) (by decide +kernel) rfl (Nat.le_of_ble_eq_true rfl) ?_
  intro p e s m below meth c X hr hnm
  refine wg_lv (lv' := [(0, .ref (ad 55)), (1, .int p1)]) rfl ?_
  unfold f_X9_force at h
  refine wg_iload_n X 1 dX9_force_0 rfl rfl ?_
  refine wg_i2l X dX9_force_1 ?_
  refine wg_lconst (v := 0) X dX9_force_2 (by decide) ?_
  refine wg_aload_n X 0 dX9_force_3 rfl rfl ?_
  refine wg_getM X cl9 (SMi hS 55 9 rfl) 3 (by decide) dX9_force_4 k_885 rfl ?_
  refine wg_iconst (v := 1) X dX9_force_7 (by decide) ?_
  refine wg_isub X dX9_force_8 ?_
  refine wg_i2l X dX9_force_9 ?_
  obtain ⟨r2, h1, h⟩ := bd_some h
  refine wg_callSi (As := [.long (p1.toInt64), .long (0 : Int64), .long (((M.1 55 3) - (1 : Int32)).toInt64)]) (rest := []) X (c_X9_in l E ad S C M p1.toInt64 (0 : Int64) (((M.1 55 3) - (1 : Int32)).toInt64)  h1) T_yX9_in k_1021 dX9_force_10 rfl rfl (Nat.le_of_ble_eq_true rfl) ⟨Nat.le_of_ble_eq_true rfl, Nat.le_of_ble_eq_true rfl⟩ ⟨Nat.zero_le _, Nat.zero_le _⟩ ?_
  refine wg_if_ne X 19 dX9_force_13 (by decide) (fun c3 => ?_) (fun c3 => ?_)
  · have h := if_f c3 h
    refine wg_aload_n X 0 dX9_force_19 rfl rfl ?_
    refine wg_getM X cl9 (SMi hS 55 9 rfl) 4 (by decide) dX9_force_20 k_886 rfl ?_
    obtain ⟨v4, e5, h⟩ := lt_some h
    refine wg_istore_n (lv' := [(2, .int v4), (0, .ref (ad 55)), (1, .int p1)]) X dX9_force_23 rfl e5 (by decide) rfl ?_
    refine wg_aload_n X 1 dX9_force_24 rfl rfl ?_
    refine wg_iload_n X 2 dX9_force_25 rfl rfl ?_
    obtain ⟨M6, e7, h⟩ := lt_some h
    refine wg_putMe X cl9 (SMi hS 55 9 rfl) 4 (by decide) dX9_force_26 k_886 rfl rfl rfl rfl e7 ?_
    refine wg_iload_n X 0 dX9_force_29 rfl rfl ?_
    exact wg_iret X ⟨(Prod.mk.inj (sm_inj h)).1, rfl, (Prod.mk.inj (sm_inj h)).2⟩ hr dX9_force_30
  · have h := if_t c3 h
    refine wg_bipush (v := -2) X dX9_force_16 (by decide) ?_
    exact wg_iret X ⟨(Prod.mk.inj (sm_inj h)).1, rfl, (Prod.mk.inj (sm_inj h)).2⟩ hr dX9_force_18
-- WindowsGiveModel.says(III)I (('c', 55), 'i', 'i', 'i')
def f_X9_says_j53 (N : Nat) (M : wg_M)  (x1 : Int32) (x2 : Int32) (s0 : Int32) : Option (Int32 × wg_M) :=
  lt_ (wg_sM M 55 18 s0) fun M14 =>
  lt_ (wg_sM M14 55 19 x2) fun M16 =>
  ck (inb x2 8) <|
  lt_ (wg_sM M16 55 20 (M16.1 63 x2.toNatClampNeg)) fun M19 =>
  bd2 (f_X9_read N M19 (M19.1 55 4) x1) fun r22 M23 =>
  if x1 = 0 then (
    bd (f_X9_within r22 (1 : Int32) (99 : Int32)) fun r28 =>
    some (r28, M23))
  else (
    bd (f_X9_within r22 (0 : Int32) (99 : Int32)) fun r26 =>
    some (r26, M23))
def f_X9_says (N : Nat) (M : wg_M) (p1 : Int32) (p2 : Int32) (p3 : Int32) : Option (Int32 × wg_M) :=
  bd (f_X9_on M p2 p3) fun r2 =>
  lt_ (wg_sM M 55 15 p3) fun M3 =>
  ck (inb p2 8) <|
  lt_ (wg_sM M3 55 16 (M3.1 62 p2.toNatClampNeg)) fun M6 =>
  ck (inb p2 8) <|
  lt_ (wg_sM M6 55 17 (M6.1 61 p2.toNatClampNeg)) fun M9 =>
  bd (f_X9_isDay r2) fun r12 =>
  if r12 = 0 then (
    f_X9_says_j53 N M9  p1 p2 (0 : Int32))
  else (
    ck (inb r2 32) <|
    f_X9_says_j53 N M9  p1 p2 (M9.1 59 r2.toNatClampNeg))
abbrev G_X9_says (p : Program) (l : Launch) (e : Env) (s : State) (m : MethodId) (args : Array Value) (below : List Frame) (meth : Method) (c : Code) (E : wg_Ev) (ad : Nat → Nat) (S : wg_Sh) (r0 : Int32) (C0 : wg_C) (M0 : wg_M) (pc : Nat) (C : wg_C) (M : wg_M) (lv : List (Nat × Value)) (st : List Value) : Prop := wg_G p l e (wg_Rm 75 2929) s m args below meth c (MQ below (wg_Qi E ad S r0 C0 M0) args s 0 0 (wg_A E)) 5 E ad S 0 0 pc C M lv st
set_option maxHeartbeats 4000000 in
set_option maxRecDepth 100000 in
theorem J_X9_says_j53 {p : Program} {l : Launch} {e : Env} {s : State} {m : MethodId} {args : Array Value} {below : List Frame} {meth : Method} {c : Code} {E : wg_Ev} {ad : Nat → Nat} {S : wg_Sh} (X : wg_X p s m args meth c cX9_says 5 RX9 E) (hr : meth.sig.returnType = (some .int)) (hS : wg_SM S) (r0 : Int32) (D0 : wg_M) (C : wg_C) (N : Nat)  (M : wg_M)  (x1 : Int32) (x2 : Int32) (s0 : Int32)   (h : f_X9_says_j53 N M  x1 x2 s0 = some (r0, D0)) : G_X9_says p l e s m args below meth c E ad S r0 C D0 53 C M [(0, .ref (ad 55)), (1, .int x1), (2, .int x2)] [.int s0, .ref (ad 55)] := by
  unfold f_X9_says_j53 at h
  obtain ⟨M14, e15, h⟩ := lt_some h
  refine wg_putMe X cl9 (SMi hS 55 9 rfl) 18 (by decide) dX9_says_53 k_900 rfl rfl rfl rfl e15 ?_
  refine wg_aload_n X 0 dX9_says_56 rfl rfl ?_
  refine wg_iload_n X 2 dX9_says_57 rfl rfl ?_
  obtain ⟨M16, e17, h⟩ := lt_some h
  refine wg_putMe X cl9 (SMi hS 55 9 rfl) 19 (by decide) dX9_says_58 k_901 rfl rfl rfl rfl e17 ?_
  refine wg_aload_n X 0 dX9_says_61 rfl rfl ?_
  refine wg_aload_n X 0 dX9_says_62 rfl rfl ?_
  refine wg_getR (b := 63) X cl9 (SMi hS 55 9 rfl) 11 (by decide) dX9_says_63 k_893 rfl (SMr hS 11 63 rfl) ?_
  refine wg_iload_n X 2 dX9_says_66 rfl rfl ?_
  obtain ⟨z18, h⟩ := ck_some h
  refine wg_mald X (SMi hS 63 11 rfl) (SMl hS 63 8 rfl) z18 dX9_says_67 ?_
  obtain ⟨M19, e20, h⟩ := lt_some h
  refine wg_putMe X cl9 (SMi hS 55 9 rfl) 20 (by decide) dX9_says_68 k_902 rfl rfl rfl rfl e20 ?_
  refine wg_aload_n X 0 dX9_says_71 rfl rfl ?_
  refine wg_aload_n X 0 dX9_says_72 rfl rfl ?_
  refine wg_getM X cl9 (SMi hS 55 9 rfl) 4 (by decide) dX9_says_73 k_886 rfl ?_
  refine wg_iload_n X 1 dX9_says_76 rfl rfl ?_
  obtain ⟨r22, M23, h21, h⟩ := bd2_some h
  refine wg_callVi (As := [.int (M19.1 55 4), .int x1]) (rest := []) X (c_X9_read l E ad S hS N C M19 (M19.1 55 4) x1  h21) T_yX9_read k_1079 cl9 (SMi hS 55 9 rfl) dX9_says_77 rfl rfl (Nat.le_of_ble_eq_true rfl) ⟨Nat.le_of_ble_eq_true rfl, Nat.le_of_ble_eq_true rfl⟩ ⟨Nat.zero_le _, Nat.zero_le _⟩ ?_
  refine wg_iload_n X 1 dX9_says_80 rfl rfl ?_
  refine wg_if_ne X 88 dX9_says_81 (by decide) (fun c24 => ?_) (fun c24 => ?_)
  · have h := if_f c24 h
    refine wg_iconst (v := 0) X dX9_says_88 (by decide) ?_
    refine wg_bipush (v := 99) X dX9_says_89 (by decide) ?_
    obtain ⟨r26, h25, h⟩ := bd_some h
    refine wg_callSi (As := [.int r22, .int (0 : Int32), .int (99 : Int32)]) (rest := []) X (c_X9_within l E ad S C M23 r22 (0 : Int32) (99 : Int32)  h25) T_yX9_within k_1170 dX9_says_91 rfl rfl (Nat.le_of_ble_eq_true rfl) ⟨Nat.le_of_ble_eq_true rfl, Nat.le_of_ble_eq_true rfl⟩ ⟨Nat.zero_le _, Nat.zero_le _⟩ ?_
    exact wg_iret X ⟨(Prod.mk.inj (sm_inj h)).1, rfl, (Prod.mk.inj (sm_inj h)).2⟩ hr dX9_says_94
  · have h := if_t c24 h
    refine wg_iconst (v := 1) X dX9_says_84 (by decide) ?_
    refine wg_goto X 89 dX9_says_85 (by decide) ?_
    refine wg_bipush (v := 99) X dX9_says_89 (by decide) ?_
    obtain ⟨r28, h27, h⟩ := bd_some h
    refine wg_callSi (As := [.int r22, .int (1 : Int32), .int (99 : Int32)]) (rest := []) X (c_X9_within l E ad S C M23 r22 (1 : Int32) (99 : Int32)  h27) T_yX9_within k_1170 dX9_says_91 rfl rfl (Nat.le_of_ble_eq_true rfl) ⟨Nat.le_of_ble_eq_true rfl, Nat.le_of_ble_eq_true rfl⟩ ⟨Nat.zero_le _, Nat.zero_le _⟩ ?_
    exact wg_iret X ⟨(Prod.mk.inj (sm_inj h)).1, rfl, (Prod.mk.inj (sm_inj h)).2⟩ hr dX9_says_94
set_option maxHeartbeats 4000000 in
set_option maxRecDepth 100000 in
theorem c_X9_says (l : Launch) (E : wg_Ev) (ad : Nat → Nat) (S : wg_Sh) (hS : wg_SM S) (N : Nat) (C : wg_C) (M : wg_M) (p1 : Int32) (p2 : Int32) (p3 : Int32)  {r0 : Int32} {D0 : wg_M} (h : f_X9_says N M p1 p2 p3 = some (r0, D0)) : wg_Ci l yX9_says cX9_says 5 (some .int) 75 2929 E ad S C M [.ref (ad 55), .int p1, .int p2, .int p3] r0 C D0 := by
  refine wg_start (own := RX9) (by decide +kernel) rfl (Nat.le_of_ble_eq_true rfl) ?_
  intro p e s m below meth c X hr hnm
  refine wg_lv (lv' := [(0, .ref (ad 55)), (1, .int p1), (2, .int p2), (3, .int p3)]) rfl ?_
  unfold f_X9_says at h
  refine wg_aload_n X 0 dX9_says_0 rfl rfl ?_
  refine wg_iload_n X 2 dX9_says_1 rfl rfl ?_
  refine wg_iload_n X 3 dX9_says_2 rfl rfl ?_
  obtain ⟨r2, h1, h⟩ := bd_some h
  refine wg_callVi (As := [.int p2, .int p3]) (rest := []) X (c_X9_on l E ad S hS C M p2 p3  h1) T_yX9_on k_1062 cl9 (SMi hS 55 9 rfl) dX9_says_3 rfl rfl (Nat.le_of_ble_eq_true rfl) ⟨Nat.le_of_ble_eq_true rfl, Nat.le_of_ble_eq_true rfl⟩ ⟨Nat.zero_le _, Nat.zero_le _⟩ ?_
  refine wg_istore (lv' := [(4, .int r2), (0, .ref (ad 55)), (1, .int p1), (2, .int p2), (3, .int p3)]) X dX9_says_6 rfl (by decide) rfl ?_
  refine wg_aload_n X 1 dX9_says_8 rfl rfl ?_
  refine wg_iload_n X 4 dX9_says_9 rfl rfl ?_
  obtain ⟨M3, e4, h⟩ := lt_some h
  refine wg_putMe X cl9 (SMi hS 55 9 rfl) 15 (by decide) dX9_says_10 k_897 rfl rfl rfl rfl e4 ?_
  refine wg_aload_n X 1 dX9_says_13 rfl rfl ?_
  refine wg_aload_n X 1 dX9_says_14 rfl rfl ?_
  refine wg_getR (b := 62) X cl9 (SMi hS 55 9 rfl) 10 (by decide) dX9_says_15 k_892 rfl (SMr hS 10 62 rfl) ?_
  refine wg_iload_n X 3 dX9_says_18 rfl rfl ?_
  obtain ⟨z5, h⟩ := ck_some h
  refine wg_mald X (SMi hS 62 11 rfl) (SMl hS 62 8 rfl) z5 dX9_says_19 ?_
  obtain ⟨M6, e7, h⟩ := lt_some h
  refine wg_putMe X cl9 (SMi hS 55 9 rfl) 16 (by decide) dX9_says_20 k_898 rfl rfl rfl rfl e7 ?_
  refine wg_aload_n X 1 dX9_says_23 rfl rfl ?_
  refine wg_aload_n X 1 dX9_says_24 rfl rfl ?_
  refine wg_getR (b := 61) X cl9 (SMi hS 55 9 rfl) 9 (by decide) dX9_says_25 k_891 rfl (SMr hS 9 61 rfl) ?_
  refine wg_iload_n X 3 dX9_says_28 rfl rfl ?_
  obtain ⟨z8, h⟩ := ck_some h
  refine wg_mald X (SMi hS 61 11 rfl) (SMl hS 61 8 rfl) z8 dX9_says_29 ?_
  obtain ⟨M9, e10, h⟩ := lt_some h
  refine wg_putMe X cl9 (SMi hS 55 9 rfl) 17 (by decide) dX9_says_30 k_899 rfl rfl rfl rfl e10 ?_
  refine wg_aload_n X 1 dX9_says_33 rfl rfl ?_
  refine wg_iload X 0 dX9_says_34 rfl ?_
  obtain ⟨r12, h11, h⟩ := bd_some h
  refine wg_callSi (As := [.int r2]) (rest := [.ref (ad 55)]) X (c_X9_isDay l E ad S C M9 r2  h11) T_yX9_isDay k_1024 dX9_says_36 rfl rfl (Nat.le_of_ble_eq_true rfl) ⟨Nat.le_of_ble_eq_true rfl, Nat.le_of_ble_eq_true rfl⟩ ⟨Nat.zero_le _, Nat.zero_le _⟩ ?_
  refine wg_if_eq X 52 dX9_says_39 (by decide) (fun c13 => ?_) (fun c13 => ?_)
  · have h := if_t c13 h
    refine wg_iconst (v := 0) X dX9_says_52 (by decide) ?_
    refine wg_pick [1, 2, 3] (lv' := [(0, .ref (ad 55)), (1, .int p1), (2, .int p2)]) rfl ?_
    exact J_X9_says_j53 X hr hS r0 D0 C N  M9  p1 p2 (0 : Int32)   h
  · have h := if_f c13 h
    refine wg_aload_n X 1 dX9_says_42 rfl rfl ?_
    refine wg_getR (b := 59) X cl9 (SMi hS 55 9 rfl) 7 (by decide) dX9_says_43 k_889 rfl (SMr hS 7 59 rfl) ?_
    refine wg_iload X 0 dX9_says_46 rfl ?_
    obtain ⟨z29, h⟩ := ck_some h
    refine wg_mald X (SMi hS 59 11 rfl) (SMl hS 59 32 rfl) z29 dX9_says_48 ?_
    refine wg_goto X 53 dX9_says_49 (by decide) ?_
    refine wg_pick [1, 2, 3] (lv' := [(0, .ref (ad 55)), (1, .int p1), (2, .int p2)]) rfl ?_
    exact J_X9_says_j53 X hr hS r0 D0 C N  M9  p1 p2 (M9.1 59 r2.toNatClampNeg)   h
-- WindowsGiveModel.eases(II)Z (('c', 55), 'i', 'i')
def f_X9_eases (M : wg_M) (p1 : Int32) (p2 : Int32) : Option (Int32 × wg_M) :=
  ck (inb p1 192) <|
  if p2 < (M.1 65 p1.toNatClampNeg) then (
    ck (inb p1 192) <|
    lt_ (wg_sM M 65 p1.toNatClampNeg p2) fun M4 =>
    some ((1 : Int32), M4))
  else (
    some ((0 : Int32), M))
set_option maxHeartbeats 4000000 in
set_option maxRecDepth 100000 in
theorem c_X9_eases (l : Launch) (E : wg_Ev) (ad : Nat → Nat) (S : wg_Sh) (hS : wg_SM S) (C : wg_C) (M : wg_M) (p1 : Int32) (p2 : Int32)  {r0 : Int32} {D0 : wg_M} (h : f_X9_eases M p1 p2 = some (r0, D0)) : wg_Ci l yX9_eases cX9_eases 3 (some .boolean) 0 0 E ad S C M [.ref (ad 55), .int p1, .int p2] r0 C D0 := by
  refine wg_start (own := RX9) (by decide +kernel) rfl (Nat.le_of_ble_eq_true rfl) ?_
  intro p e s m below meth c X hr hnm
  refine wg_lv (lv' := [(0, .ref (ad 55)), (1, .int p1), (2, .int p2)]) rfl ?_
  unfold f_X9_eases at h
  refine wg_iload_n X 2 dX9_eases_0 rfl rfl ?_
  refine wg_aload_n X 0 dX9_eases_1 rfl rfl ?_
  refine wg_getR (b := 65) X cl9 (SMi hS 55 9 rfl) 30 (by decide) dX9_eases_2 k_912 rfl (SMr hS 30 65 rfl) ?_
  refine wg_iload_n X 1 dX9_eases_5 rfl rfl ?_
  obtain ⟨z1, h⟩ := ck_some h
  refine wg_mald X (SMi hS 65 11 rfl) (SMl hS 65 192 rfl) z1 dX9_eases_6 ?_
  refine wg_icmp_lt X 12 dX9_eases_7 (by decide) (fun c2 => ?_) (fun c2 => ?_)
  · have h := if_t c2 h
    refine wg_aload_n X 0 dX9_eases_12 rfl rfl ?_
    refine wg_getR (b := 65) X cl9 (SMi hS 55 9 rfl) 30 (by decide) dX9_eases_13 k_912 rfl (SMr hS 30 65 rfl) ?_
    refine wg_iload_n X 1 dX9_eases_16 rfl rfl ?_
    refine wg_iload_n X 2 dX9_eases_17 rfl rfl ?_
    obtain ⟨z3, h⟩ := ck_some h
    obtain ⟨M4, e5, h⟩ := lt_some h
    refine wg_maste X (SMi hS 65 11 rfl) (SMl hS 65 192 rfl) z3 dX9_eases_18 e5 ?_
    refine wg_iconst (v := 1) X dX9_eases_19 (by decide) ?_
    exact wg_zret X ⟨(Prod.mk.inj (sm_inj h)).1, rfl, (Prod.mk.inj (sm_inj h)).2⟩ hr (by decide) dX9_eases_20
  · have h := if_f c2 h
    refine wg_iconst (v := 0) X dX9_eases_10 (by decide) ?_
    exact wg_zret X ⟨(Prod.mk.inj (sm_inj h)).1, rfl, (Prod.mk.inj (sm_inj h)).2⟩ hr (by decide) dX9_eases_11
-- WindowsGiveModel.goesOn(IIZ)Z (('c', 55), 'i', 'i', 'i')
def f_X9_goesOn_j140l47 (N : Nat) (M : wg_M)  (x1 : Int32) (x2 : Int32) (x3 : Int32) (x4 : Int32) (x5 : Int32) (x6 : Int32) (x7 : Int32) (s0 : Int32) (s1 : Int32) (s2 : Int32) : Option ((wg_M × Int32 × Int32) ⊕ (wg_M × Int32 × Int32)) :=
  bd2 (f_X9_eases M s2 (s1 + s0)) fun r26 M27 =>
  if r26 = 0 then (
    if x6 = 0 then (
      lt_ (x7 + (1 : Int32)) fun v32 =>
      some (.inl (M27, (0 : Int32), v32)))
    else (
      lt_ (x7 + (1 : Int32)) fun v34 =>
      some (.inl (M27, (1 : Int32), v34))))
  else (
    lt_ (x7 + (1 : Int32)) fun v29 =>
    some (.inl (M27, (1 : Int32), v29)))
def f_X9_goesOn_l47 (N : Nat)  (x1 : Int32) (x2 : Int32) (x3 : Int32) (x4 : Int32) (x5 : Int32) (M : wg_M) (x6 : Int32) (x7 : Int32) : Option ((wg_M × Int32 × Int32) ⊕ (wg_M × Int32 × Int32)) :=
  if (M.1 55 13) ≤ x7 then (
    some (.inr (M, x6, x7)))
  else (
    if (((M.1 55 14) >>> (x7 &&& 31)) &&& (1 : Int32)) = 0 then (
      ck (inb x7 8) <|
      if (M.1 63 x7.toNatClampNeg) = x4 then (
        bd (f_X9_passes M x7 x5 x2) fun r15 =>
        if r15 = 0 then (
          lt_ (x7 + (1 : Int32)) fun v17 =>
          some (.inl (M, x6, v17)))
        else (
          bd (f_X9_leads M x7) fun r20 =>
          bd (f_X9_on M x7 x5) fun r22 =>
          ck (inb x1 192) <|
          if x3 = 0 then (
            f_X9_goesOn_j140l47 N M  x1 x2 x3 x4 x5 x6 x7 (10000 : Int32) (M.1 65 x1.toNatClampNeg) (((32 : Int32) * r20) + r22))
          else (
            ck (inb (((32 : Int32) * x7) + x5) 256) <|
            f_X9_goesOn_j140l47 N M  x1 x2 x3 x4 x5 x6 x7 (M.1 66 (((32 : Int32) * x7) + x5).toNatClampNeg) (M.1 65 x1.toNatClampNeg) (((32 : Int32) * r20) + r22))))
      else (
        lt_ (x7 + (1 : Int32)) fun v12 =>
        some (.inl (M, x6, v12))))
    else (
      lt_ (x7 + (1 : Int32)) fun v8 =>
      some (.inl (M, x6, v8))))
def f_X9_goesOn_j42 (N : Nat) (M : wg_M)  (x1 : Int32) (x2 : Int32) (x3 : Int32) (x4 : Int32) (x5 : Int32) (s0 : Int32) : Option (Int32 × wg_M) :=
  bd3 (lp (fun o => f_X9_goesOn_l47 N  x1 x2 x3 x4 x5 o.1 o.2.1 o.2.2) N (M, s0, (0 : Int32))) fun M37 v38 v39 =>
  ck (v38 = 0 ∨ v38 = 1) <|
  some (v38, M37)
def f_X9_goesOn (N : Nat) (M : wg_M) (p1 : Int32) (p2 : Int32) (p3 : Int32) : Option (Int32 × wg_M) :=
  lt_ (p1 / (32 : Int32)) fun v1 =>
  lt_ (p1 - p1 / (32 : Int32) * (32 : Int32)) fun v3 =>
  if (31 : Int32) ≤ v3 then (
    f_X9_goesOn_j42 N M  p1 p2 p3 v1 v3 (0 : Int32))
  else (
    ck (inb p1 192) <|
    bd2 (f_X9_eases M (p1 + (1 : Int32)) ((M.1 65 p1.toNatClampNeg) + (1 : Int32))) fun r47 M48 =>
    if r47 = 0 then (
      f_X9_goesOn_j42 N M48  p1 p2 p3 v1 v3 (0 : Int32))
    else (
      f_X9_goesOn_j42 N M48  p1 p2 p3 v1 v3 (1 : Int32)))
abbrev G_X9_goesOn (p : Program) (l : Launch) (e : Env) (s : State) (m : MethodId) (args : Array Value) (below : List Frame) (meth : Method) (c : Code) (E : wg_Ev) (ad : Nat → Nat) (S : wg_Sh) (r0 : Int32) (C0 : wg_C) (M0 : wg_M) (pc : Nat) (C : wg_C) (M : wg_M) (lv : List (Nat × Value)) (st : List Value) : Prop := wg_G p l e (wg_Rm 3 69) s m args below meth c (MQ below (wg_Qi E ad S r0 C0 M0) args s 0 0 (wg_A E)) 8 E ad S 0 0 pc C M lv st
set_option maxHeartbeats 4000000 in
set_option maxRecDepth 100000 in
theorem J_X9_goesOn_j140l47 {p : Program} {l : Launch} {e : Env} {s : State} {m : MethodId} {args : Array Value} {below : List Frame} {meth : Method} {c : Code} {E : wg_Ev} {ad : Nat → Nat} {S : wg_Sh} (X : wg_X p s m args meth c cX9_goesOn 8 RX9 E) (hr : meth.sig.returnType = (some .boolean)) (hS : wg_SM S) (r0 : Int32) (D0 : wg_M) (C : wg_C) (N : Nat)  (M : wg_M)  (x1 : Int32) (x2 : Int32) (x3 : Int32) (x4 : Int32) (x5 : Int32) (x6 : Int32) (x7 : Int32) (s0 : Int32) (s1 : Int32) (s2 : Int32)  (y : ((wg_M × Int32 × Int32) ⊕ (wg_M × Int32 × Int32))) (Kc : ∀ (Dy : wg_M) (y6 : Int32) (y7 : Int32), y = Sum.inl (Dy, y6, y7) → G_X9_goesOn p l e s m args below meth c E ad S r0 C D0 47 C Dy [(0, .ref (ad 55)), (1, .int x1), (2, .int x2), (3, .int x3), (4, .int x4), (5, .int x5), (6, .int y6), (7, .int y7)] []) (Ke : ∀ (Dy : wg_M) (y6 : Int32) (y7 : Int32), y = Sum.inr ((Dy, y6, y7)) → G_X9_goesOn p l e s m args below meth c E ad S r0 C D0 165 C Dy [(0, .ref (ad 55)), (1, .int x1), (2, .int x2), (3, .int x3), (4, .int x4), (5, .int x5), (6, .int y6), (7, .int y7)] []) (h : f_X9_goesOn_j140l47 N M  x1 x2 x3 x4 x5 x6 x7 s0 s1 s2 = some y) : G_X9_goesOn p l e s m args below meth c E ad S r0 C D0 140 C M [(0, .ref (ad 55)), (1, .int x1), (2, .int x2), (3, .int x3), (4, .int x4), (5, .int x5), (6, .int x6), (7, .int x7)] [.int s0, .int s1, .int s2, .ref (ad 55)] := by
  unfold f_X9_goesOn_j140l47 at h
  refine wg_iadd X dX9_goesOn_140 ?_
  obtain ⟨r26, M27, h25, h⟩ := bd2_some h
  refine wg_callVi (As := [.int s2, .int (s1 + s0)]) (rest := []) X (c_X9_eases l E ad S hS C M s2 (s1 + s0)  h25) T_yX9_eases k_1178 cl9 (SMi hS 55 9 rfl) dX9_goesOn_141 rfl rfl (Nat.le_of_ble_eq_true rfl) ⟨Nat.le_of_ble_eq_true rfl, Nat.le_of_ble_eq_true rfl⟩ ⟨Nat.zero_le _, Nat.zero_le _⟩ ?_
  refine wg_if_ne X 152 dX9_goesOn_144 (by decide) (fun c28 => ?_) (fun c28 => ?_)
  · have h := if_f c28 h
    refine wg_iconst (v := 1) X dX9_goesOn_152 (by decide) ?_
    refine wg_goto X 157 dX9_goesOn_153 (by decide) ?_
    refine wg_istore (lv' := [(6, .int (1 : Int32)), (0, .ref (ad 55)), (1, .int x1), (2, .int x2), (3, .int x3), (4, .int x4), (5, .int x5), (7, .int x7)]) X dX9_goesOn_157 rfl (by decide) rfl ?_
    obtain ⟨v29, e30, h⟩ := lt_some h
    refine wg_iinc (lv' := [(7, .int v29), (6, .int (1 : Int32)), (0, .ref (ad 55)), (1, .int x1), (2, .int x2), (3, .int x3), (4, .int x4), (5, .int x5)]) X 7 dX9_goesOn_159 rfl e30 (by decide) rfl ?_
    refine wg_goto X 47 dX9_goesOn_162 (by decide) ?_
    refine wg_pick [2, 3, 4, 5, 6, 7, 1, 0] (lv' := [(0, .ref (ad 55)), (1, .int x1), (2, .int x2), (3, .int x3), (4, .int x4), (5, .int x5), (6, .int (1 : Int32)), (7, .int v29)]) rfl ?_
    exact Kc M27 (1 : Int32) v29 (sm_inj h).symm
  · have h := if_t c28 h
    refine wg_iload X 6 dX9_goesOn_147 rfl ?_
    refine wg_if_eq X 156 dX9_goesOn_149 (by decide) (fun c31 => ?_) (fun c31 => ?_)
    · have h := if_t c31 h
      refine wg_iconst (v := 0) X dX9_goesOn_156 (by decide) ?_
      refine wg_istore (lv' := [(6, .int (0 : Int32)), (0, .ref (ad 55)), (1, .int x1), (2, .int x2), (3, .int x3), (4, .int x4), (5, .int x5), (7, .int x7)]) X dX9_goesOn_157 rfl (by decide) rfl ?_
      obtain ⟨v32, e33, h⟩ := lt_some h
      refine wg_iinc (lv' := [(7, .int v32), (6, .int (0 : Int32)), (0, .ref (ad 55)), (1, .int x1), (2, .int x2), (3, .int x3), (4, .int x4), (5, .int x5)]) X 7 dX9_goesOn_159 rfl e33 (by decide) rfl ?_
      refine wg_goto X 47 dX9_goesOn_162 (by decide) ?_
      refine wg_pick [2, 3, 4, 5, 6, 7, 1, 0] (lv' := [(0, .ref (ad 55)), (1, .int x1), (2, .int x2), (3, .int x3), (4, .int x4), (5, .int x5), (6, .int (0 : Int32)), (7, .int v32)]) rfl ?_
      exact Kc M27 (0 : Int32) v32 (sm_inj h).symm
    · have h := if_f c31 h
      refine wg_iconst (v := 1) X dX9_goesOn_152 (by decide) ?_
      refine wg_goto X 157 dX9_goesOn_153 (by decide) ?_
      refine wg_istore (lv' := [(6, .int (1 : Int32)), (0, .ref (ad 55)), (1, .int x1), (2, .int x2), (3, .int x3), (4, .int x4), (5, .int x5), (7, .int x7)]) X dX9_goesOn_157 rfl (by decide) rfl ?_
      obtain ⟨v34, e35, h⟩ := lt_some h
      refine wg_iinc (lv' := [(7, .int v34), (6, .int (1 : Int32)), (0, .ref (ad 55)), (1, .int x1), (2, .int x2), (3, .int x3), (4, .int x4), (5, .int x5)]) X 7 dX9_goesOn_159 rfl e35 (by decide) rfl ?_
      refine wg_goto X 47 dX9_goesOn_162 (by decide) ?_
      refine wg_pick [2, 3, 4, 5, 6, 7, 1, 0] (lv' := [(0, .ref (ad 55)), (1, .int x1), (2, .int x2), (3, .int x3), (4, .int x4), (5, .int x5), (6, .int (1 : Int32)), (7, .int v34)]) rfl ?_
      exact Kc M27 (1 : Int32) v34 (sm_inj h).symm
set_option maxHeartbeats 4000000 in
set_option maxRecDepth 100000 in
theorem L_X9_goesOn_l47 {p : Program} {l : Launch} {e : Env} {s : State} {m : MethodId} {args : Array Value} {below : List Frame} {meth : Method} {c : Code} {E : wg_Ev} {ad : Nat → Nat} {S : wg_Sh} (X : wg_X p s m args meth c cX9_goesOn 8 RX9 E) (hr : meth.sig.returnType = (some .boolean)) (hS : wg_SM S) (r0 : Int32) (D0 : wg_M) (C : wg_C) (N : Nat)   (x1 : Int32) (x2 : Int32) (x3 : Int32) (x4 : Int32) (x5 : Int32)  : ∀ (n : Nat) (M : wg_M) (x6 : Int32) (x7 : Int32) (o : (wg_M × Int32 × Int32)), lp (fun o => f_X9_goesOn_l47 N  x1 x2 x3 x4 x5 o.1 o.2.1 o.2.2) n (M, x6, x7) = some o → (∀ (Dy : wg_M) (y6 : Int32) (y7 : Int32), o = (Dy, y6, y7) → G_X9_goesOn p l e s m args below meth c E ad S r0 C D0 165 C Dy [(0, .ref (ad 55)), (1, .int x1), (2, .int x2), (3, .int x3), (4, .int x4), (5, .int x5), (6, .int y6), (7, .int y7)] []) → G_X9_goesOn p l e s m args below meth c E ad S r0 C D0 47 C M [(0, .ref (ad 55)), (1, .int x1), (2, .int x2), (3, .int x3), (4, .int x4), (5, .int x5), (6, .int x6), (7, .int x7)] [] := by
  intro n
  induction n with
  | zero => exact fun _ _ _ o h => (lp_zero h).elim
  | succ n ih =>
    intro M x6 x7 o h K
    obtain ⟨o1, hb, h2⟩ := lp_some h
    replace hb : f_X9_goesOn_l47 N  x1 x2 x3 x4 x5 M x6 x7 = some o1 := hb
    clear h
    have Kc : ∀ (Dy : wg_M) (y6 : Int32) (y7 : Int32), o1 = Sum.inl (Dy, y6, y7) → G_X9_goesOn p l e s m args below meth c E ad S r0 C D0 47 C Dy [(0, .ref (ad 55)), (1, .int x1), (2, .int x2), (3, .int x3), (4, .int x4), (5, .int x5), (6, .int y6), (7, .int y7)] [] := fun Dy y6 y7 e1 => by
      subst e1
      exact ih Dy y6 y7 o h2 K
    have Ke : ∀ (Dy : wg_M) (y6 : Int32) (y7 : Int32), o1 = Sum.inr ((Dy, y6, y7)) → G_X9_goesOn p l e s m args below meth c E ad S r0 C D0 165 C Dy [(0, .ref (ad 55)), (1, .int x1), (2, .int x2), (3, .int x3), (4, .int x4), (5, .int x5), (6, .int y6), (7, .int y7)] [] := fun Dy y6 y7 e1 => by
      subst e1
      exact K Dy y6 y7 (sm_inj (α := (wg_M × Int32 × Int32)) h2).symm
    clear ih K h2
    unfold f_X9_goesOn_l47 at hb
    have h := hb
    clear hb
    refine wg_iload X 7 dX9_goesOn_47 rfl ?_
    refine wg_aload_n X 0 dX9_goesOn_49 rfl rfl ?_
    refine wg_getM X cl9 (SMi hS 55 9 rfl) 13 (by decide) dX9_goesOn_50 k_895 rfl ?_
    refine wg_icmp_ge X 165 dX9_goesOn_53 (by decide) (fun c6 => ?_) (fun c6 => ?_)
    · have h := if_t c6 h
      exact Ke M x6 x7 (sm_inj h).symm
    · have h := if_f c6 h
      refine wg_aload_n X 0 dX9_goesOn_56 rfl rfl ?_
      refine wg_getM X cl9 (SMi hS 55 9 rfl) 14 (by decide) dX9_goesOn_57 k_896 rfl ?_
      refine wg_iload X 7 dX9_goesOn_60 rfl ?_
      refine wg_ishr X dX9_goesOn_62 ?_
      refine wg_iconst (v := 1) X dX9_goesOn_63 (by decide) ?_
      refine wg_iand X dX9_goesOn_64 ?_
      refine wg_if_ne X 159 dX9_goesOn_65 (by decide) (fun c7 => ?_) (fun c7 => ?_)
      · have h := if_f c7 h
        obtain ⟨v8, e9, h⟩ := lt_some h
        refine wg_iinc (lv' := [(7, .int v8), (0, .ref (ad 55)), (1, .int x1), (2, .int x2), (3, .int x3), (4, .int x4), (5, .int x5), (6, .int x6)]) X 7 dX9_goesOn_159 rfl e9 (by decide) rfl ?_
        refine wg_goto X 47 dX9_goesOn_162 (by decide) ?_
        refine wg_pick [1, 2, 3, 4, 5, 6, 7, 0] (lv' := [(0, .ref (ad 55)), (1, .int x1), (2, .int x2), (3, .int x3), (4, .int x4), (5, .int x5), (6, .int x6), (7, .int v8)]) rfl ?_
        exact Kc M x6 v8 (sm_inj h).symm
      · have h := if_t c7 h
        refine wg_aload_n X 0 dX9_goesOn_68 rfl rfl ?_
        refine wg_getR (b := 63) X cl9 (SMi hS 55 9 rfl) 11 (by decide) dX9_goesOn_69 k_893 rfl (SMr hS 11 63 rfl) ?_
        refine wg_iload X 7 dX9_goesOn_72 rfl ?_
        obtain ⟨z10, h⟩ := ck_some h
        refine wg_mald X (SMi hS 63 11 rfl) (SMl hS 63 8 rfl) z10 dX9_goesOn_74 ?_
        refine wg_iload X 4 dX9_goesOn_75 rfl ?_
        refine wg_icmp_ne X 159 dX9_goesOn_77 (by decide) (fun c11 => ?_) (fun c11 => ?_)
        · have h := if_f c11 h
          obtain ⟨v12, e13, h⟩ := lt_some h
          refine wg_iinc (lv' := [(7, .int v12), (0, .ref (ad 55)), (1, .int x1), (2, .int x2), (3, .int x3), (4, .int x4), (5, .int x5), (6, .int x6)]) X 7 dX9_goesOn_159 rfl e13 (by decide) rfl ?_
          refine wg_goto X 47 dX9_goesOn_162 (by decide) ?_
          refine wg_pick [1, 2, 3, 4, 5, 6, 7, 0] (lv' := [(0, .ref (ad 55)), (1, .int x1), (2, .int x2), (3, .int x3), (4, .int x4), (5, .int x5), (6, .int x6), (7, .int v12)]) rfl ?_
          exact Kc M x6 v12 (sm_inj h).symm
        · have h := if_t c11 h
          refine wg_aload_n X 0 dX9_goesOn_80 rfl rfl ?_
          refine wg_iload X 7 dX9_goesOn_81 rfl ?_
          refine wg_iload X 5 dX9_goesOn_83 rfl ?_
          refine wg_iload_n X 2 dX9_goesOn_85 rfl rfl ?_
          obtain ⟨r15, h14, h⟩ := bd_some h
          refine wg_callVi (As := [.int x7, .int x5, .int x2]) (rest := []) X (c_X9_passes l E ad S hS C M x7 x5 x2  h14) T_yX9_passes k_1066 cl9 (SMi hS 55 9 rfl) dX9_goesOn_86 rfl rfl (Nat.le_of_ble_eq_true rfl) ⟨Nat.le_of_ble_eq_true rfl, Nat.le_of_ble_eq_true rfl⟩ ⟨Nat.zero_le _, Nat.zero_le _⟩ ?_
          refine wg_if_eq X 159 dX9_goesOn_89 (by decide) (fun c16 => ?_) (fun c16 => ?_)
          · have h := if_t c16 h
            obtain ⟨v17, e18, h⟩ := lt_some h
            refine wg_iinc (lv' := [(7, .int v17), (0, .ref (ad 55)), (1, .int x1), (2, .int x2), (3, .int x3), (4, .int x4), (5, .int x5), (6, .int x6)]) X 7 dX9_goesOn_159 rfl e18 (by decide) rfl ?_
            refine wg_goto X 47 dX9_goesOn_162 (by decide) ?_
            refine wg_pick [1, 2, 3, 4, 5, 6, 7, 0] (lv' := [(0, .ref (ad 55)), (1, .int x1), (2, .int x2), (3, .int x3), (4, .int x4), (5, .int x5), (6, .int x6), (7, .int v17)]) rfl ?_
            exact Kc M x6 v17 (sm_inj h).symm
          · have h := if_f c16 h
            refine wg_aload_n X 0 dX9_goesOn_92 rfl rfl ?_
            refine wg_bipush (v := 32) X dX9_goesOn_93 (by decide) ?_
            refine wg_aload_n X 0 dX9_goesOn_95 rfl rfl ?_
            refine wg_iload X 7 dX9_goesOn_96 rfl ?_
            obtain ⟨r20, h19, h⟩ := bd_some h
            refine wg_callVi (As := [.int x7]) (rest := [.int (32 : Int32), .ref (ad 55)]) X (c_X9_leads l E ad S hS C M x7  h19) T_yX9_leads k_1040 cl9 (SMi hS 55 9 rfl) dX9_goesOn_98 rfl rfl (Nat.le_of_ble_eq_true rfl) ⟨Nat.le_of_ble_eq_true rfl, Nat.le_of_ble_eq_true rfl⟩ ⟨Nat.zero_le _, Nat.zero_le _⟩ ?_
            refine wg_imul X dX9_goesOn_101 ?_
            refine wg_aload_n X 0 dX9_goesOn_102 rfl rfl ?_
            refine wg_iload X 7 dX9_goesOn_103 rfl ?_
            refine wg_iload X 5 dX9_goesOn_105 rfl ?_
            obtain ⟨r22, h21, h⟩ := bd_some h
            refine wg_callVi (As := [.int x7, .int x5]) (rest := [.int ((32 : Int32) * r20), .ref (ad 55)]) X (c_X9_on l E ad S hS C M x7 x5  h21) T_yX9_on k_1062 cl9 (SMi hS 55 9 rfl) dX9_goesOn_107 rfl rfl (Nat.le_of_ble_eq_true rfl) ⟨Nat.le_of_ble_eq_true rfl, Nat.le_of_ble_eq_true rfl⟩ ⟨Nat.zero_le _, Nat.zero_le _⟩ ?_
            refine wg_iadd X dX9_goesOn_110 ?_
            refine wg_aload_n X 0 dX9_goesOn_111 rfl rfl ?_
            refine wg_getR (b := 65) X cl9 (SMi hS 55 9 rfl) 30 (by decide) dX9_goesOn_112 k_912 rfl (SMr hS 30 65 rfl) ?_
            refine wg_iload_n X 1 dX9_goesOn_115 rfl rfl ?_
            obtain ⟨z23, h⟩ := ck_some h
            refine wg_mald X (SMi hS 65 11 rfl) (SMl hS 65 192 rfl) z23 dX9_goesOn_116 ?_
            refine wg_iload_n X 3 dX9_goesOn_117 rfl rfl ?_
            refine wg_if_eq X 137 dX9_goesOn_118 (by decide) (fun c24 => ?_) (fun c24 => ?_)
            · have h := if_t c24 h
              refine wg_sipush (v := 10000) X dX9_goesOn_137 (by decide) ?_
              exact J_X9_goesOn_j140l47 X hr hS r0 D0 C N  M  x1 x2 x3 x4 x5 x6 x7 (10000 : Int32) (M.1 65 x1.toNatClampNeg) (((32 : Int32) * r20) + r22)  _ Kc Ke h
            · have h := if_f c24 h
              refine wg_aload_n X 0 dX9_goesOn_121 rfl rfl ?_
              refine wg_getR (b := 66) X cl9 (SMi hS 55 9 rfl) 31 (by decide) dX9_goesOn_122 k_913 rfl (SMr hS 31 66 rfl) ?_
              refine wg_bipush (v := 32) X dX9_goesOn_125 (by decide) ?_
              refine wg_iload X 7 dX9_goesOn_127 rfl ?_
              refine wg_imul X dX9_goesOn_129 ?_
              refine wg_iload X 5 dX9_goesOn_130 rfl ?_
              refine wg_iadd X dX9_goesOn_132 ?_
              obtain ⟨z36, h⟩ := ck_some h
              refine wg_mald X (SMi hS 66 11 rfl) (SMl hS 66 256 rfl) z36 dX9_goesOn_133 ?_
              refine wg_goto X 140 dX9_goesOn_134 (by decide) ?_
              exact J_X9_goesOn_j140l47 X hr hS r0 D0 C N  M  x1 x2 x3 x4 x5 x6 x7 (M.1 66 (((32 : Int32) * x7) + x5).toNatClampNeg) (M.1 65 x1.toNatClampNeg) (((32 : Int32) * r20) + r22)  _ Kc Ke h
set_option maxHeartbeats 4000000 in
set_option maxRecDepth 100000 in
theorem J_X9_goesOn_j42 {p : Program} {l : Launch} {e : Env} {s : State} {m : MethodId} {args : Array Value} {below : List Frame} {meth : Method} {c : Code} {E : wg_Ev} {ad : Nat → Nat} {S : wg_Sh} (X : wg_X p s m args meth c cX9_goesOn 8 RX9 E) (hr : meth.sig.returnType = (some .boolean)) (hS : wg_SM S) (r0 : Int32) (D0 : wg_M) (C : wg_C) (N : Nat)  (M : wg_M)  (x1 : Int32) (x2 : Int32) (x3 : Int32) (x4 : Int32) (x5 : Int32) (s0 : Int32)   (h : f_X9_goesOn_j42 N M  x1 x2 x3 x4 x5 s0 = some (r0, D0)) : G_X9_goesOn p l e s m args below meth c E ad S r0 C D0 42 C M [(0, .ref (ad 55)), (1, .int x1), (2, .int x2), (3, .int x3), (4, .int x4), (5, .int x5)] [.int s0] := by
  unfold f_X9_goesOn_j42 at h
  refine wg_istore (lv' := [(6, .int s0), (0, .ref (ad 55)), (1, .int x1), (2, .int x2), (3, .int x3), (4, .int x4), (5, .int x5)]) X dX9_goesOn_42 rfl (by decide) rfl ?_
  refine wg_iconst (v := 0) X dX9_goesOn_44 (by decide) ?_
  refine wg_istore (lv' := [(7, .int (0 : Int32)), (6, .int s0), (0, .ref (ad 55)), (1, .int x1), (2, .int x2), (3, .int x3), (4, .int x4), (5, .int x5)]) X dX9_goesOn_45 rfl (by decide) rfl ?_
  obtain ⟨o40, h41, h⟩ := bd3_o h
  refine wg_pick [2, 3, 4, 5, 6, 7, 1, 0] (lv' := [(0, .ref (ad 55)), (1, .int x1), (2, .int x2), (3, .int x3), (4, .int x4), (5, .int x5), (6, .int s0), (7, .int (0 : Int32))]) rfl ?_
  refine L_X9_goesOn_l47 X hr hS r0 D0 C N   x1 x2 x3 x4 x5  N M s0 (0 : Int32) o40 h41 (fun M37 v38 v39 e43 => ?_)
  · subst o40
    replace h := bd3_in h
    refine wg_iload X 6 dX9_goesOn_165 rfl ?_
    obtain ⟨z44, h⟩ := ck_some h
    exact wg_zret X ⟨(Prod.mk.inj (sm_inj h)).1, rfl, (Prod.mk.inj (sm_inj h)).2⟩ hr z44 dX9_goesOn_167
set_option maxHeartbeats 4000000 in
set_option maxRecDepth 100000 in
theorem c_X9_goesOn (l : Launch) (E : wg_Ev) (ad : Nat → Nat) (S : wg_Sh) (hS : wg_SM S) (N : Nat) (C : wg_C) (M : wg_M) (p1 : Int32) (p2 : Int32) (p3 : Int32)  {r0 : Int32} {D0 : wg_M} (h : f_X9_goesOn N M p1 p2 p3 = some (r0, D0)) : wg_Ci l yX9_goesOn cX9_goesOn 8 (some .boolean) 3 69 E ad S C M [.ref (ad 55), .int p1, .int p2, .int p3] r0 C D0 := by
  refine wg_start (own := RX9) (by decide +kernel) rfl (Nat.le_of_ble_eq_true rfl) ?_
  intro p e s m below meth c X hr hnm
  refine wg_lv (lv' := [(0, .ref (ad 55)), (1, .int p1), (2, .int p2), (3, .int p3)]) rfl ?_
  unfold f_X9_goesOn at h
  refine wg_iload_n X 1 dX9_goesOn_0 rfl rfl ?_
  refine wg_bipush (v := 32) X dX9_goesOn_1 (by decide) ?_
  refine wg_idiv X dX9_goesOn_3 (by decide) ?_
  obtain ⟨v1, e2, h⟩ := lt_some h
  refine wg_istore (lv' := [(4, .int v1), (0, .ref (ad 55)), (1, .int p1), (2, .int p2), (3, .int p3)]) X dX9_goesOn_4 e2 (by decide) rfl ?_
  refine wg_iload_n X 2 dX9_goesOn_6 rfl rfl ?_
  refine wg_bipush (v := 32) X dX9_goesOn_7 (by decide) ?_
  refine wg_irem X dX9_goesOn_9 (by decide) ?_
  obtain ⟨v3, e4, h⟩ := lt_some h
  refine wg_istore (lv' := [(5, .int v3), (4, .int v1), (0, .ref (ad 55)), (1, .int p1), (2, .int p2), (3, .int p3)]) X dX9_goesOn_10 e4 (by decide) rfl ?_
  refine wg_iload X 0 dX9_goesOn_12 rfl ?_
  refine wg_bipush (v := 31) X dX9_goesOn_14 (by decide) ?_
  refine wg_icmp_ge X 41 dX9_goesOn_16 (by decide) (fun c5 => ?_) (fun c5 => ?_)
  · have h := if_t c5 h
    refine wg_iconst (v := 0) X dX9_goesOn_41 (by decide) ?_
    refine wg_pick [2, 3, 4, 5, 1, 0] (lv' := [(0, .ref (ad 55)), (1, .int p1), (2, .int p2), (3, .int p3), (4, .int v1), (5, .int v3)]) rfl ?_
    exact J_X9_goesOn_j42 X hr hS r0 D0 C N  M  p1 p2 p3 v1 v3 (0 : Int32)   h
  · have h := if_f c5 h
    refine wg_aload_n X 2 dX9_goesOn_19 rfl rfl ?_
    refine wg_iload_n X 3 dX9_goesOn_20 rfl rfl ?_
    refine wg_iconst (v := 1) X dX9_goesOn_21 (by decide) ?_
    refine wg_iadd X dX9_goesOn_22 ?_
    refine wg_aload_n X 2 dX9_goesOn_23 rfl rfl ?_
    refine wg_getR (b := 65) X cl9 (SMi hS 55 9 rfl) 30 (by decide) dX9_goesOn_24 k_912 rfl (SMr hS 30 65 rfl) ?_
    refine wg_iload_n X 3 dX9_goesOn_27 rfl rfl ?_
    obtain ⟨z45, h⟩ := ck_some h
    refine wg_mald X (SMi hS 65 11 rfl) (SMl hS 65 192 rfl) z45 dX9_goesOn_28 ?_
    refine wg_iconst (v := 1) X dX9_goesOn_29 (by decide) ?_
    refine wg_iadd X dX9_goesOn_30 ?_
    obtain ⟨r47, M48, h46, h⟩ := bd2_some h
    refine wg_callVi (As := [.int (p1 + (1 : Int32)), .int ((M.1 65 p1.toNatClampNeg) + (1 : Int32))]) (rest := []) X (c_X9_eases l E ad S hS C M (p1 + (1 : Int32)) ((M.1 65 p1.toNatClampNeg) + (1 : Int32))  h46) T_yX9_eases k_1178 cl9 (SMi hS 55 9 rfl) dX9_goesOn_31 rfl rfl (Nat.le_of_ble_eq_true rfl) ⟨Nat.le_of_ble_eq_true rfl, Nat.le_of_ble_eq_true rfl⟩ ⟨Nat.zero_le _, Nat.zero_le _⟩ ?_
    refine wg_if_eq X 41 dX9_goesOn_34 (by decide) (fun c49 => ?_) (fun c49 => ?_)
    · have h := if_t c49 h
      refine wg_iconst (v := 0) X dX9_goesOn_41 (by decide) ?_
      refine wg_pick [2, 3, 4, 5, 1, 0] (lv' := [(0, .ref (ad 55)), (1, .int p1), (2, .int p2), (3, .int p3), (4, .int v1), (5, .int v3)]) rfl ?_
      exact J_X9_goesOn_j42 X hr hS r0 D0 C N  M48  p1 p2 p3 v1 v3 (0 : Int32)   h
    · have h := if_f c49 h
      refine wg_iconst (v := 1) X dX9_goesOn_37 (by decide) ?_
      refine wg_goto X 42 dX9_goesOn_38 (by decide) ?_
      refine wg_pick [2, 3, 4, 5, 1, 0] (lv' := [(0, .ref (ad 55)), (1, .int p1), (2, .int p2), (3, .int p3), (4, .int v1), (5, .int v3)]) rfl ?_
      exact J_X9_goesOn_j42 X hr hS r0 D0 C N  M48  p1 p2 p3 v1 v3 (1 : Int32)   h
-- WindowsGiveModel.spreads(IIZ)V (('c', 55), 'i', 'i', 'i')
def f_X9_spreads_l19 (N : Nat)  (x1 : Int32) (x2 : Int32) (x3 : Int32) (x4 : Int32) (M : wg_M) (x5 : Int32) : Option ((wg_M × Int32) ⊕ (wg_M × Int32)) :=
  if (32 : Int32) ≤ x5 then (
    some (.inr (M, x5)))
  else (
    bd2 (f_X9_says N M (0 : Int32) x4 x5) fun r5 M6 =>
    ck (inb (((32 : Int32) * x4) + x5) 256) <|
    lt_ (wg_sM M6 66 (((32 : Int32) * x4) + x5).toNatClampNeg r5) fun M8 =>
    lt_ (x5 + (1 : Int32)) fun v10 =>
    some (.inl (M8, v10)))
def f_X9_spreads_l3 (N : Nat)  (x1 : Int32) (x2 : Int32) (x3 : Int32) (M : wg_M) (x4 : Int32) : Option ((wg_M × Int32) ⊕ (wg_M × Int32)) :=
  if (M.1 55 13) ≤ x4 then (
    some (.inr (M, x4)))
  else (
    if x3 = 0 then (
      some (.inr (M, x4)))
    else (
      bd2 (lp (fun o => f_X9_spreads_l19 N  x1 x2 x3 x4 o.1 o.2) N (M, (0 : Int32))) fun M12 v13 =>
      lt_ (x4 + (1 : Int32)) fun v18 =>
      some (.inl (M12, v18))))
def f_X9_spreads_l63 (N : Nat)  (x1 : Int32) (x2 : Int32) (x3 : Int32) (M : wg_M) (x4 : Int32) : Option ((wg_M × Int32) ⊕ (wg_M × Int32)) :=
  if (192 : Int32) ≤ x4 then (
    some (.inr (M, x4)))
  else (
    ck (inb x4 192) <|
    lt_ (wg_sM M 65 x4.toNatClampNeg (99999999 : Int32)) fun M28 =>
    lt_ (x4 + (1 : Int32)) fun v30 =>
    some (.inl (M28, v30)))
def f_X9_spreads_l108 (N : Nat)  (x2 : Int32) (x3 : Int32) (M : wg_M) (x4 : Int32) (x5 : Int32) : Option ((wg_M × Int32 × Int32) ⊕ (wg_M × Int32 × Int32)) :=
  if (192 : Int32) ≤ x5 then (
    some (.inr (M, x4, x5)))
  else (
    ck (inb x5 192) <|
    if (99999999 : Int32) ≤ (M.1 65 x5.toNatClampNeg) then (
      lt_ (x5 + (1 : Int32)) fun v45 =>
      some (.inl (M, x4, v45)))
    else (
      bd2 (f_X9_goesOn N M x5 x2 x3) fun r48 M49 =>
      if r48 = 0 then (
        lt_ (x5 + (1 : Int32)) fun v51 =>
        some (.inl (M49, x4, v51)))
      else (
        lt_ (x5 + (1 : Int32)) fun v53 =>
        some (.inl (M49, (1 : Int32), v53)))))
def f_X9_spreads_l97 (N : Nat)  (x2 : Int32) (x3 : Int32) (M : wg_M) (x4 : Int32) : Option ((wg_M × Int32) ⊕ (wg_M × Int32)) :=
  if x4 = 0 then (
    some (.inr (M, x4)))
  else (
    bd3 (lp (fun o => f_X9_spreads_l108 N  x2 x3 o.1 o.2.1 o.2.2) N (M, (0 : Int32), (0 : Int32))) fun M55 v56 v57 =>
    some (.inl (M55, v56)))
def f_X9_spreads (N : Nat) (M : wg_M) (p1 : Int32) (p2 : Int32) (p3 : Int32) : Option wg_M :=
  bd2 (lp (fun o => f_X9_spreads_l3 N  p1 p2 p3 o.1 o.2) N (M, (0 : Int32))) fun M20 v21 =>
  bd2 (lp (fun o => f_X9_spreads_l63 N  p1 p2 p3 o.1 o.2) N (M20, (0 : Int32))) fun M32 v33 =>
  ck (inb p1 192) <|
  lt_ (wg_sM M32 65 p1.toNatClampNeg (0 : Int32)) fun M39 =>
  bd2 (lp (fun o => f_X9_spreads_l97 N  p2 p3 o.1 o.2) N (M39, (1 : Int32))) fun M62 v63 =>
  some M62
abbrev G_X9_spreads (p : Program) (l : Launch) (e : Env) (s : State) (m : MethodId) (args : Array Value) (below : List Frame) (meth : Method) (c : Code) (E : wg_Ev) (ad : Nat → Nat) (S : wg_Sh) (C0 : wg_C) (M0 : wg_M) (pc : Nat) (C : wg_C) (M : wg_M) (lv : List (Nat × Value)) (st : List Value) : Prop := wg_G p l e (wg_Rm 76 2953) s m args below meth c (MQ below (wg_Qv E ad S C0 M0) args s 0 0 (wg_A E)) 6 E ad S 0 0 pc C M lv st
set_option maxHeartbeats 4000000 in
set_option maxRecDepth 100000 in
theorem L_X9_spreads_l19 {p : Program} {l : Launch} {e : Env} {s : State} {m : MethodId} {args : Array Value} {below : List Frame} {meth : Method} {c : Code} {E : wg_Ev} {ad : Nat → Nat} {S : wg_Sh} (X : wg_X p s m args meth c cX9_spreads 6 RX9 E) (hr : meth.sig.returnType = none) (hS : wg_SM S) (D0 : wg_M) (C : wg_C) (N : Nat)   (x1 : Int32) (x2 : Int32) (x3 : Int32) (x4 : Int32)  : ∀ (n : Nat) (M : wg_M) (x5 : Int32) (o : (wg_M × Int32)), lp (fun o => f_X9_spreads_l19 N  x1 x2 x3 x4 o.1 o.2) n (M, x5) = some o → (∀ (Dy : wg_M) (y5 : Int32), o = (Dy, y5) → G_X9_spreads p l e s m args below meth c E ad S C D0 54 C Dy [(0, .ref (ad 55)), (1, .int x1), (2, .int x2), (3, .int x3), (4, .int x4), (5, .int y5)] []) → G_X9_spreads p l e s m args below meth c E ad S C D0 19 C M [(0, .ref (ad 55)), (1, .int x1), (2, .int x2), (3, .int x3), (4, .int x4), (5, .int x5)] [] := by
  intro n
  induction n with
  | zero => exact fun _ _ o h => (lp_zero h).elim
  | succ n ih =>
    intro M x5 o h K
    obtain ⟨o1, hb, h2⟩ := lp_some h
    replace hb : f_X9_spreads_l19 N  x1 x2 x3 x4 M x5 = some o1 := hb
    clear h
    have Kc : ∀ (Dy : wg_M) (y5 : Int32), o1 = Sum.inl (Dy, y5) → G_X9_spreads p l e s m args below meth c E ad S C D0 19 C Dy [(0, .ref (ad 55)), (1, .int x1), (2, .int x2), (3, .int x3), (4, .int x4), (5, .int y5)] [] := fun Dy y5 e1 => by
      subst e1
      exact ih Dy y5 o h2 K
    have Ke : ∀ (Dy : wg_M) (y5 : Int32), o1 = Sum.inr ((Dy, y5)) → G_X9_spreads p l e s m args below meth c E ad S C D0 54 C Dy [(0, .ref (ad 55)), (1, .int x1), (2, .int x2), (3, .int x3), (4, .int x4), (5, .int y5)] [] := fun Dy y5 e1 => by
      subst e1
      exact K Dy y5 (sm_inj (α := (wg_M × Int32)) h2).symm
    clear ih K h2
    unfold f_X9_spreads_l19 at hb
    have h := hb
    clear hb
    refine wg_iload X 5 dX9_spreads_19 rfl ?_
    refine wg_bipush (v := 32) X dX9_spreads_21 (by decide) ?_
    refine wg_icmp_ge X 54 dX9_spreads_23 (by decide) (fun c3 => ?_) (fun c3 => ?_)
    · have h := if_t c3 h
      exact Ke M x5 (sm_inj h).symm
    · have h := if_f c3 h
      refine wg_aload_n X 0 dX9_spreads_26 rfl rfl ?_
      refine wg_getR (b := 66) X cl9 (SMi hS 55 9 rfl) 31 (by decide) dX9_spreads_27 k_913 rfl (SMr hS 31 66 rfl) ?_
      refine wg_bipush (v := 32) X dX9_spreads_30 (by decide) ?_
      refine wg_iload X 4 dX9_spreads_32 rfl ?_
      refine wg_imul X dX9_spreads_34 ?_
      refine wg_iload X 5 dX9_spreads_35 rfl ?_
      refine wg_iadd X dX9_spreads_37 ?_
      refine wg_aload_n X 0 dX9_spreads_38 rfl rfl ?_
      refine wg_iconst (v := 0) X dX9_spreads_39 (by decide) ?_
      refine wg_iload X 4 dX9_spreads_40 rfl ?_
      refine wg_iload X 5 dX9_spreads_42 rfl ?_
      obtain ⟨r5, M6, h4, h⟩ := bd2_some h
      refine wg_callVi (As := [.int (0 : Int32), .int x4, .int x5]) (rest := [.int (((32 : Int32) * x4) + x5), .ref (ad 66)]) X (c_X9_says l E ad S hS N C M (0 : Int32) x4 x5  h4) T_yX9_says k_1166 cl9 (SMi hS 55 9 rfl) dX9_spreads_44 rfl rfl (Nat.le_of_ble_eq_true rfl) ⟨Nat.le_of_ble_eq_true rfl, Nat.le_of_ble_eq_true rfl⟩ ⟨Nat.zero_le _, Nat.zero_le _⟩ ?_
      obtain ⟨z7, h⟩ := ck_some h
      obtain ⟨M8, e9, h⟩ := lt_some h
      refine wg_maste X (SMi hS 66 11 rfl) (SMl hS 66 256 rfl) z7 dX9_spreads_47 e9 ?_
      obtain ⟨v10, e11, h⟩ := lt_some h
      refine wg_iinc (lv' := [(5, .int v10), (0, .ref (ad 55)), (1, .int x1), (2, .int x2), (3, .int x3), (4, .int x4)]) X 5 dX9_spreads_48 rfl e11 (by decide) rfl ?_
      refine wg_goto X 19 dX9_spreads_51 (by decide) ?_
      refine wg_pick [1, 2, 3, 4, 5, 0] (lv' := [(0, .ref (ad 55)), (1, .int x1), (2, .int x2), (3, .int x3), (4, .int x4), (5, .int v10)]) rfl ?_
      exact Kc M8 v10 (sm_inj h).symm
set_option maxHeartbeats 4000000 in
set_option maxRecDepth 100000 in
theorem L_X9_spreads_l3 {p : Program} {l : Launch} {e : Env} {s : State} {m : MethodId} {args : Array Value} {below : List Frame} {meth : Method} {c : Code} {E : wg_Ev} {ad : Nat → Nat} {S : wg_Sh} (X : wg_X p s m args meth c cX9_spreads 6 RX9 E) (hr : meth.sig.returnType = none) (hS : wg_SM S) (D0 : wg_M) (C : wg_C) (N : Nat)   (x1 : Int32) (x2 : Int32) (x3 : Int32)  : ∀ (n : Nat) (M : wg_M) (x4 : Int32) (o : (wg_M × Int32)), lp (fun o => f_X9_spreads_l3 N  x1 x2 x3 o.1 o.2) n (M, x4) = some o → (∀ (Dy : wg_M) (y4 : Int32), o = (Dy, y4) → G_X9_spreads p l e s m args below meth c E ad S C D0 60 C Dy [(0, .ref (ad 55)), (1, .int x1), (2, .int x2), (3, .int x3), (4, .int y4)] []) → G_X9_spreads p l e s m args below meth c E ad S C D0 3 C M [(0, .ref (ad 55)), (1, .int x1), (2, .int x2), (3, .int x3), (4, .int x4)] [] := by
  intro n
  induction n with
  | zero => exact fun _ _ o h => (lp_zero h).elim
  | succ n ih =>
    intro M x4 o h K
    obtain ⟨o1, hb, h2⟩ := lp_some h
    replace hb : f_X9_spreads_l3 N  x1 x2 x3 M x4 = some o1 := hb
    clear h
    have Kc : ∀ (Dy : wg_M) (y4 : Int32), o1 = Sum.inl (Dy, y4) → G_X9_spreads p l e s m args below meth c E ad S C D0 3 C Dy [(0, .ref (ad 55)), (1, .int x1), (2, .int x2), (3, .int x3), (4, .int y4)] [] := fun Dy y4 e1 => by
      subst e1
      exact ih Dy y4 o h2 K
    have Ke : ∀ (Dy : wg_M) (y4 : Int32), o1 = Sum.inr ((Dy, y4)) → G_X9_spreads p l e s m args below meth c E ad S C D0 60 C Dy [(0, .ref (ad 55)), (1, .int x1), (2, .int x2), (3, .int x3), (4, .int y4)] [] := fun Dy y4 e1 => by
      subst e1
      exact K Dy y4 (sm_inj (α := (wg_M × Int32)) h2).symm
    clear ih K h2
    unfold f_X9_spreads_l3 at hb
    have h := hb
    clear hb
    refine wg_iload X 4 dX9_spreads_3 rfl ?_
    refine wg_aload_n X 0 dX9_spreads_5 rfl rfl ?_
    refine wg_getM X cl9 (SMi hS 55 9 rfl) 13 (by decide) dX9_spreads_6 k_895 rfl ?_
    refine wg_icmp_ge X 60 dX9_spreads_9 (by decide) (fun c1 => ?_) (fun c1 => ?_)
    · have h := if_t c1 h
      exact Ke M x4 (sm_inj h).symm
    · have h := if_f c1 h
      refine wg_iload_n X 3 dX9_spreads_12 rfl rfl ?_
      refine wg_if_eq X 60 dX9_spreads_13 (by decide) (fun c2 => ?_) (fun c2 => ?_)
      · have h := if_t c2 h
        exact Ke M x4 (sm_inj h).symm
      · have h := if_f c2 h
        refine wg_iconst (v := 0) X dX9_spreads_16 (by decide) ?_
        refine wg_istore (lv' := [(5, .int (0 : Int32)), (0, .ref (ad 55)), (1, .int x1), (2, .int x2), (3, .int x3), (4, .int x4)]) X dX9_spreads_17 rfl (by decide) rfl ?_
        obtain ⟨o14, h15, h⟩ := bd2_o h
        refine wg_pick [1, 2, 3, 4, 5, 0] (lv' := [(0, .ref (ad 55)), (1, .int x1), (2, .int x2), (3, .int x3), (4, .int x4), (5, .int (0 : Int32))]) rfl ?_
        refine L_X9_spreads_l19 X hr hS D0 C N   x1 x2 x3 x4  N M (0 : Int32) o14 h15 (fun M12 v13 e17 => ?_)
        · subst o14
          replace h := bd2_in h
          obtain ⟨v18, e19, h⟩ := lt_some h
          refine wg_iinc (lv' := [(4, .int v18), (0, .ref (ad 55)), (1, .int x1), (2, .int x2), (3, .int x3), (5, .int v13)]) X 4 dX9_spreads_54 rfl e19 (by decide) rfl ?_
          refine wg_goto X 3 dX9_spreads_57 (by decide) ?_
          refine wg_pick [1, 2, 3, 4, 0] (lv' := [(0, .ref (ad 55)), (1, .int x1), (2, .int x2), (3, .int x3), (4, .int v18)]) rfl ?_
          exact Kc M12 v18 (sm_inj h).symm
set_option maxHeartbeats 4000000 in
set_option maxRecDepth 100000 in
theorem L_X9_spreads_l63 {p : Program} {l : Launch} {e : Env} {s : State} {m : MethodId} {args : Array Value} {below : List Frame} {meth : Method} {c : Code} {E : wg_Ev} {ad : Nat → Nat} {S : wg_Sh} (X : wg_X p s m args meth c cX9_spreads 6 RX9 E) (hr : meth.sig.returnType = none) (hS : wg_SM S) (D0 : wg_M) (C : wg_C) (N : Nat)   (x1 : Int32) (x2 : Int32) (x3 : Int32)  : ∀ (n : Nat) (M : wg_M) (x4 : Int32) (o : (wg_M × Int32)), lp (fun o => f_X9_spreads_l63 N  x1 x2 x3 o.1 o.2) n (M, x4) = some o → (∀ (Dy : wg_M) (y4 : Int32), o = (Dy, y4) → G_X9_spreads p l e s m args below meth c E ad S C D0 87 C Dy [(0, .ref (ad 55)), (1, .int x1), (2, .int x2), (3, .int x3), (4, .int y4)] []) → G_X9_spreads p l e s m args below meth c E ad S C D0 63 C M [(0, .ref (ad 55)), (1, .int x1), (2, .int x2), (3, .int x3), (4, .int x4)] [] := by
  intro n
  induction n with
  | zero => exact fun _ _ o h => (lp_zero h).elim
  | succ n ih =>
    intro M x4 o h K
    obtain ⟨o1, hb, h2⟩ := lp_some h
    replace hb : f_X9_spreads_l63 N  x1 x2 x3 M x4 = some o1 := hb
    clear h
    have Kc : ∀ (Dy : wg_M) (y4 : Int32), o1 = Sum.inl (Dy, y4) → G_X9_spreads p l e s m args below meth c E ad S C D0 63 C Dy [(0, .ref (ad 55)), (1, .int x1), (2, .int x2), (3, .int x3), (4, .int y4)] [] := fun Dy y4 e1 => by
      subst e1
      exact ih Dy y4 o h2 K
    have Ke : ∀ (Dy : wg_M) (y4 : Int32), o1 = Sum.inr ((Dy, y4)) → G_X9_spreads p l e s m args below meth c E ad S C D0 87 C Dy [(0, .ref (ad 55)), (1, .int x1), (2, .int x2), (3, .int x3), (4, .int y4)] [] := fun Dy y4 e1 => by
      subst e1
      exact K Dy y4 (sm_inj (α := (wg_M × Int32)) h2).symm
    clear ih K h2
    unfold f_X9_spreads_l63 at hb
    have h := hb
    clear hb
    refine wg_iload X 4 dX9_spreads_63 rfl ?_
    refine wg_sipush (v := 192) X dX9_spreads_65 (by decide) ?_
    refine wg_icmp_ge X 87 dX9_spreads_68 (by decide) (fun c26 => ?_) (fun c26 => ?_)
    · have h := if_t c26 h
      exact Ke M x4 (sm_inj h).symm
    · have h := if_f c26 h
      refine wg_aload_n X 0 dX9_spreads_71 rfl rfl ?_
      refine wg_getR (b := 65) X cl9 (SMi hS 55 9 rfl) 30 (by decide) dX9_spreads_72 k_912 rfl (SMr hS 30 65 rfl) ?_
      refine wg_iload X 4 dX9_spreads_75 rfl ?_
      refine wg_ldcw (v := 99999999) X dX9_spreads_77 k_1173 ?_
      obtain ⟨z27, h⟩ := ck_some h
      obtain ⟨M28, e29, h⟩ := lt_some h
      refine wg_maste X (SMi hS 65 11 rfl) (SMl hS 65 192 rfl) z27 dX9_spreads_80 e29 ?_
      obtain ⟨v30, e31, h⟩ := lt_some h
      refine wg_iinc (lv' := [(4, .int v30), (0, .ref (ad 55)), (1, .int x1), (2, .int x2), (3, .int x3)]) X 4 dX9_spreads_81 rfl e31 (by decide) rfl ?_
      refine wg_goto X 63 dX9_spreads_84 (by decide) ?_
      refine wg_pick [1, 2, 3, 4, 0] (lv' := [(0, .ref (ad 55)), (1, .int x1), (2, .int x2), (3, .int x3), (4, .int v30)]) rfl ?_
      exact Kc M28 v30 (sm_inj h).symm
set_option maxHeartbeats 4000000 in
set_option maxRecDepth 100000 in
theorem L_X9_spreads_l108 {p : Program} {l : Launch} {e : Env} {s : State} {m : MethodId} {args : Array Value} {below : List Frame} {meth : Method} {c : Code} {E : wg_Ev} {ad : Nat → Nat} {S : wg_Sh} (X : wg_X p s m args meth c cX9_spreads 6 RX9 E) (hr : meth.sig.returnType = none) (hS : wg_SM S) (D0 : wg_M) (C : wg_C) (N : Nat)   (x2 : Int32) (x3 : Int32)  : ∀ (n : Nat) (M : wg_M) (x4 : Int32) (x5 : Int32) (o : (wg_M × Int32 × Int32)), lp (fun o => f_X9_spreads_l108 N  x2 x3 o.1 o.2.1 o.2.2) n (M, x4, x5) = some o → (∀ (Dy : wg_M) (y4 : Int32) (y5 : Int32), o = (Dy, y4, y5) → G_X9_spreads p l e s m args below meth c E ad S C D0 149 C Dy [(0, .ref (ad 55)), (2, .int x2), (3, .int x3), (4, .int y4), (5, .int y5)] []) → G_X9_spreads p l e s m args below meth c E ad S C D0 108 C M [(0, .ref (ad 55)), (2, .int x2), (3, .int x3), (4, .int x4), (5, .int x5)] [] := by
  intro n
  induction n with
  | zero => exact fun _ _ _ o h => (lp_zero h).elim
  | succ n ih =>
    intro M x4 x5 o h K
    obtain ⟨o1, hb, h2⟩ := lp_some h
    replace hb : f_X9_spreads_l108 N  x2 x3 M x4 x5 = some o1 := hb
    clear h
    have Kc : ∀ (Dy : wg_M) (y4 : Int32) (y5 : Int32), o1 = Sum.inl (Dy, y4, y5) → G_X9_spreads p l e s m args below meth c E ad S C D0 108 C Dy [(0, .ref (ad 55)), (2, .int x2), (3, .int x3), (4, .int y4), (5, .int y5)] [] := fun Dy y4 y5 e1 => by
      subst e1
      exact ih Dy y4 y5 o h2 K
    have Ke : ∀ (Dy : wg_M) (y4 : Int32) (y5 : Int32), o1 = Sum.inr ((Dy, y4, y5)) → G_X9_spreads p l e s m args below meth c E ad S C D0 149 C Dy [(0, .ref (ad 55)), (2, .int x2), (3, .int x3), (4, .int y4), (5, .int y5)] [] := fun Dy y4 y5 e1 => by
      subst e1
      exact K Dy y4 y5 (sm_inj (α := (wg_M × Int32 × Int32)) h2).symm
    clear ih K h2
    unfold f_X9_spreads_l108 at hb
    have h := hb
    clear hb
    refine wg_iload X 4 dX9_spreads_108 rfl ?_
    refine wg_sipush (v := 192) X dX9_spreads_110 (by decide) ?_
    refine wg_icmp_ge X 149 dX9_spreads_113 (by decide) (fun c42 => ?_) (fun c42 => ?_)
    · have h := if_t c42 h
      exact Ke M x4 x5 (sm_inj h).symm
    · have h := if_f c42 h
      refine wg_aload_n X 0 dX9_spreads_116 rfl rfl ?_
      refine wg_getR (b := 65) X cl9 (SMi hS 55 9 rfl) 30 (by decide) dX9_spreads_117 k_912 rfl (SMr hS 30 65 rfl) ?_
      refine wg_iload X 4 dX9_spreads_120 rfl ?_
      obtain ⟨z43, h⟩ := ck_some h
      refine wg_mald X (SMi hS 65 11 rfl) (SMl hS 65 192 rfl) z43 dX9_spreads_122 ?_
      refine wg_ldcw (v := 99999999) X dX9_spreads_123 k_1173 ?_
      refine wg_icmp_ge X 143 dX9_spreads_126 (by decide) (fun c44 => ?_) (fun c44 => ?_)
      · have h := if_t c44 h
        obtain ⟨v45, e46, h⟩ := lt_some h
        refine wg_iinc (lv' := [(5, .int v45), (0, .ref (ad 55)), (2, .int x2), (3, .int x3), (4, .int x4)]) X 4 dX9_spreads_143 rfl e46 (by decide) rfl ?_
        refine wg_goto X 108 dX9_spreads_146 (by decide) ?_
        refine wg_pick [1, 2, 3, 4, 0] (lv' := [(0, .ref (ad 55)), (2, .int x2), (3, .int x3), (4, .int x4), (5, .int v45)]) rfl ?_
        exact Kc M x4 v45 (sm_inj h).symm
      · have h := if_f c44 h
        refine wg_aload_n X 0 dX9_spreads_129 rfl rfl ?_
        refine wg_iload X 4 dX9_spreads_130 rfl ?_
        refine wg_iload_n X 1 dX9_spreads_132 rfl rfl ?_
        refine wg_iload_n X 2 dX9_spreads_133 rfl rfl ?_
        obtain ⟨r48, M49, h47, h⟩ := bd2_some h
        refine wg_callVi (As := [.int x5, .int x2, .int x3]) (rest := []) X (c_X9_goesOn l E ad S hS N C M x5 x2 x3  h47) T_yX9_goesOn k_1174 cl9 (SMi hS 55 9 rfl) dX9_spreads_134 rfl rfl (Nat.le_of_ble_eq_true rfl) ⟨Nat.le_of_ble_eq_true rfl, Nat.le_of_ble_eq_true rfl⟩ ⟨Nat.zero_le _, Nat.zero_le _⟩ ?_
        refine wg_if_eq X 143 dX9_spreads_137 (by decide) (fun c50 => ?_) (fun c50 => ?_)
        · have h := if_t c50 h
          obtain ⟨v51, e52, h⟩ := lt_some h
          refine wg_iinc (lv' := [(5, .int v51), (0, .ref (ad 55)), (2, .int x2), (3, .int x3), (4, .int x4)]) X 4 dX9_spreads_143 rfl e52 (by decide) rfl ?_
          refine wg_goto X 108 dX9_spreads_146 (by decide) ?_
          refine wg_pick [1, 2, 3, 4, 0] (lv' := [(0, .ref (ad 55)), (2, .int x2), (3, .int x3), (4, .int x4), (5, .int v51)]) rfl ?_
          exact Kc M49 x4 v51 (sm_inj h).symm
        · have h := if_f c50 h
          refine wg_iconst (v := 1) X dX9_spreads_140 (by decide) ?_
          refine wg_istore (lv' := [(4, .int (1 : Int32)), (0, .ref (ad 55)), (2, .int x2), (3, .int x3), (5, .int x5)]) X dX9_spreads_141 rfl (by decide) rfl ?_
          obtain ⟨v53, e54, h⟩ := lt_some h
          refine wg_iinc (lv' := [(5, .int v53), (4, .int (1 : Int32)), (0, .ref (ad 55)), (2, .int x2), (3, .int x3)]) X 4 dX9_spreads_143 rfl e54 (by decide) rfl ?_
          refine wg_goto X 108 dX9_spreads_146 (by decide) ?_
          refine wg_pick [2, 3, 4, 1, 0] (lv' := [(0, .ref (ad 55)), (2, .int x2), (3, .int x3), (4, .int (1 : Int32)), (5, .int v53)]) rfl ?_
          exact Kc M49 (1 : Int32) v53 (sm_inj h).symm
set_option maxHeartbeats 4000000 in
set_option maxRecDepth 100000 in
theorem L_X9_spreads_l97 {p : Program} {l : Launch} {e : Env} {s : State} {m : MethodId} {args : Array Value} {below : List Frame} {meth : Method} {c : Code} {E : wg_Ev} {ad : Nat → Nat} {S : wg_Sh} (X : wg_X p s m args meth c cX9_spreads 6 RX9 E) (hr : meth.sig.returnType = none) (hS : wg_SM S) (D0 : wg_M) (C : wg_C) (N : Nat)   (x2 : Int32) (x3 : Int32)  : ∀ (n : Nat) (M : wg_M) (x4 : Int32) (o : (wg_M × Int32)), lp (fun o => f_X9_spreads_l97 N  x2 x3 o.1 o.2) n (M, x4) = some o → (∀ (Dy : wg_M) (y4 : Int32), o = (Dy, y4) → G_X9_spreads p l e s m args below meth c E ad S C D0 152 C Dy [(0, .ref (ad 55)), (2, .int x2), (3, .int x3), (4, .int y4)] []) → G_X9_spreads p l e s m args below meth c E ad S C D0 97 C M [(0, .ref (ad 55)), (2, .int x2), (3, .int x3), (4, .int x4)] [] := by
  intro n
  induction n with
  | zero => exact fun _ _ o h => (lp_zero h).elim
  | succ n ih =>
    intro M x4 o h K
    obtain ⟨o1, hb, h2⟩ := lp_some h
    replace hb : f_X9_spreads_l97 N  x2 x3 M x4 = some o1 := hb
    clear h
    have Kc : ∀ (Dy : wg_M) (y4 : Int32), o1 = Sum.inl (Dy, y4) → G_X9_spreads p l e s m args below meth c E ad S C D0 97 C Dy [(0, .ref (ad 55)), (2, .int x2), (3, .int x3), (4, .int y4)] [] := fun Dy y4 e1 => by
      subst e1
      exact ih Dy y4 o h2 K
    have Ke : ∀ (Dy : wg_M) (y4 : Int32), o1 = Sum.inr ((Dy, y4)) → G_X9_spreads p l e s m args below meth c E ad S C D0 152 C Dy [(0, .ref (ad 55)), (2, .int x2), (3, .int x3), (4, .int y4)] [] := fun Dy y4 e1 => by
      subst e1
      exact K Dy y4 (sm_inj (α := (wg_M × Int32)) h2).symm
    clear ih K h2
    unfold f_X9_spreads_l97 at hb
    have h := hb
    clear hb
    refine wg_iload X 3 dX9_spreads_97 rfl ?_
    refine wg_if_eq X 152 dX9_spreads_99 (by decide) (fun c41 => ?_) (fun c41 => ?_)
    · have h := if_t c41 h
      exact Ke M x4 (sm_inj h).symm
    · have h := if_f c41 h
      refine wg_iconst (v := 0) X dX9_spreads_102 (by decide) ?_
      refine wg_istore (lv' := [(4, .int (0 : Int32)), (0, .ref (ad 55)), (2, .int x2), (3, .int x3)]) X dX9_spreads_103 rfl (by decide) rfl ?_
      refine wg_iconst (v := 0) X dX9_spreads_105 (by decide) ?_
      refine wg_istore (lv' := [(5, .int (0 : Int32)), (4, .int (0 : Int32)), (0, .ref (ad 55)), (2, .int x2), (3, .int x3)]) X dX9_spreads_106 rfl (by decide) rfl ?_
      obtain ⟨o58, h59, h⟩ := bd3_o h
      refine wg_pick [2, 3, 4, 1, 0] (lv' := [(0, .ref (ad 55)), (2, .int x2), (3, .int x3), (4, .int (0 : Int32)), (5, .int (0 : Int32))]) rfl ?_
      refine L_X9_spreads_l108 X hr hS D0 C N   x2 x3  N M (0 : Int32) (0 : Int32) o58 h59 (fun M55 v56 v57 e61 => ?_)
      · subst o58
        replace h := bd3_in h
        refine wg_goto X 97 dX9_spreads_149 (by decide) ?_
        refine wg_pick [0, 1, 2, 3] (lv' := [(0, .ref (ad 55)), (2, .int x2), (3, .int x3), (4, .int v56)]) rfl ?_
        exact Kc M55 v56 (sm_inj h).symm
set_option maxHeartbeats 4000000 in
set_option maxRecDepth 100000 in
theorem c_X9_spreads (l : Launch) (E : wg_Ev) (ad : Nat → Nat) (S : wg_Sh) (hS : wg_SM S) (N : Nat) (C : wg_C) (M : wg_M) (p1 : Int32) (p2 : Int32) (p3 : Int32)  {D0 : wg_M} (h : f_X9_spreads N M p1 p2 p3 = some D0) : wg_Cv l yX9_spreads cX9_spreads 6 none 76 2953 E ad S C M [.ref (ad 55), .int p1, .int p2, .int p3] C D0 := by
  refine wg_start (own := RX9) (by decide +kernel) rfl (Nat.le_of_ble_eq_true rfl) ?_
  intro p e s m below meth c X hr hnm
  refine wg_lv (lv' := [(0, .ref (ad 55)), (1, .int p1), (2, .int p2), (3, .int p3)]) rfl ?_
  unfold f_X9_spreads at h
  refine wg_iconst (v := 0) X dX9_spreads_0 (by decide) ?_
  refine wg_istore (lv' := [(4, .int (0 : Int32)), (0, .ref (ad 55)), (1, .int p1), (2, .int p2), (3, .int p3)]) X dX9_spreads_1 rfl (by decide) rfl ?_
  obtain ⟨o22, h23, h⟩ := bd2_o h
  refine wg_pick [1, 2, 3, 4, 0] (lv' := [(0, .ref (ad 55)), (1, .int p1), (2, .int p2), (3, .int p3), (4, .int (0 : Int32))]) rfl ?_
  refine L_X9_spreads_l3 X hr hS D0 C N   p1 p2 p3  N M (0 : Int32) o22 h23 (fun M20 v21 e25 => ?_)
  · subst o22
    replace h := bd2_in h
    refine wg_iconst (v := 0) X dX9_spreads_60 (by decide) ?_
    refine wg_istore (lv' := [(4, .int (0 : Int32)), (0, .ref (ad 55)), (1, .int p1), (2, .int p2), (3, .int p3)]) X dX9_spreads_61 rfl (by decide) rfl ?_
    obtain ⟨o34, h35, h⟩ := bd2_o h
    refine wg_pick [1, 2, 3, 4, 0] (lv' := [(0, .ref (ad 55)), (1, .int p1), (2, .int p2), (3, .int p3), (4, .int (0 : Int32))]) rfl ?_
    refine L_X9_spreads_l63 X hr hS D0 C N   p1 p2 p3  N M20 (0 : Int32) o34 h35 (fun M32 v33 e37 => ?_)
    · subst o34
      replace h := bd2_in h
      refine wg_aload_n X 0 dX9_spreads_87 rfl rfl ?_
      refine wg_getR (b := 65) X cl9 (SMi hS 55 9 rfl) 30 (by decide) dX9_spreads_88 k_912 rfl (SMr hS 30 65 rfl) ?_
      refine wg_iload_n X 1 dX9_spreads_91 rfl rfl ?_
      refine wg_iconst (v := 0) X dX9_spreads_92 (by decide) ?_
      obtain ⟨z38, h⟩ := ck_some h
      obtain ⟨M39, e40, h⟩ := lt_some h
      refine wg_maste X (SMi hS 65 11 rfl) (SMl hS 65 192 rfl) z38 dX9_spreads_93 e40 ?_
      refine wg_iconst (v := 1) X dX9_spreads_94 (by decide) ?_
      refine wg_istore (lv' := [(4, .int (1 : Int32)), (0, .ref (ad 55)), (1, .int p1), (2, .int p2), (3, .int p3)]) X dX9_spreads_95 rfl (by decide) rfl ?_
      obtain ⟨o64, h65, h⟩ := bd2_o h
      refine wg_pick [1, 3, 4, 0] (lv' := [(0, .ref (ad 55)), (2, .int p2), (3, .int p3), (4, .int (1 : Int32))]) rfl ?_
      refine L_X9_spreads_l97 X hr hS D0 C N   p2 p3  N M39 (1 : Int32) o64 h65 (fun M62 v63 e67 => ?_)
      · subst o64
        replace h := bd2_in h
        exact wg_vret X ⟨rfl, (sm_inj h)⟩ hr dX9_spreads_152
-- WindowsGiveModel.panes(IIII)I (('c', 55), 'i', 'i', 'i', 'i')
def f_X9_panes (N : Nat) (M : wg_M) (p1 : Int32) (p2 : Int32) (p3 : Int32) (p4 : Int32) : Option (Int32 × wg_M) :=
  bd (f_X9_isSpot p1) fun r2 =>
  if r2 = 0 then (
    some ((-2 : Int32), M))
  else (
    bd (f_X9_isSpot p2) fun r5 =>
    if r5 = 0 then (
      some ((-2 : Int32), M))
    else (
      bd (f_X9_isSort p3) fun r8 =>
      if r8 = 0 then (
        some ((-2 : Int32), M))
      else (
        bd (f_X9_in p4.toInt64 (0 : Int64) (1 : Int64)) fun r11 =>
        if r11 = 0 then (
          some ((-2 : Int32), M))
        else (
          bd (f_X9_spreads N M p1 p3 (0 : Int32)) fun M14 =>
          ck (inb p2 192) <|
          if (M14.1 65 p2.toNatClampNeg) = (99999999 : Int32) then (
            some ((-1 : Int32), M14))
          else (
            if p4 = 0 then (
              ck (inb p2 192) <|
              some (((M14.1 65 p2.toNatClampNeg) / (10000 : Int32)), M14))
            else (
              ck (inb p2 192) <|
              some (((M14.1 65 p2.toNatClampNeg) - (M14.1 65 p2.toNatClampNeg) / (10000 : Int32) * (10000 : Int32)), M14)))))))
set_option maxHeartbeats 4000000 in
set_option maxRecDepth 100000 in
theorem c_X9_panes (l : Launch) (E : wg_Ev) (ad : Nat → Nat) (S : wg_Sh) (hS : wg_SM S) (N : Nat) (C : wg_C) (M : wg_M) (p1 : Int32) (p2 : Int32) (p3 : Int32) (p4 : Int32)  {r0 : Int32} {D0 : wg_M} (h : f_X9_panes N M p1 p2 p3 p4 = some (r0, D0)) : wg_Ci l yX9_panes cX9_panes 5 (some .int) 77 2978 E ad S C M [.ref (ad 55), .int p1, .int p2, .int p3, .int p4] r0 C D0 := by
  refine wg_start (own := RX9) (by decide +kernel) rfl (Nat.le_of_ble_eq_true rfl) ?_
  intro p e s m below meth c X hr hnm
  refine wg_lv (lv' := [(0, .ref (ad 55)), (1, .int p1), (2, .int p2), (3, .int p3), (4, .int p4)]) rfl ?_
  unfold f_X9_panes at h
  refine wg_iload_n X 1 dX9_panes_0 rfl rfl ?_
  obtain ⟨r2, h1, h⟩ := bd_some h
  refine wg_callSi (As := [.int p1]) (rest := []) X (c_X9_isSpot l E ad S C M p1  h1) T_yX9_isSpot k_1158 dX9_panes_1 rfl rfl (Nat.le_of_ble_eq_true rfl) ⟨Nat.le_of_ble_eq_true rfl, Nat.le_of_ble_eq_true rfl⟩ ⟨Nat.zero_le _, Nat.zero_le _⟩ ?_
  refine wg_if_eq X 32 dX9_panes_4 (by decide) (fun c3 => ?_) (fun c3 => ?_)
  · have h := if_t c3 h
    refine wg_bipush (v := -2) X dX9_panes_32 (by decide) ?_
    exact wg_iret X ⟨(Prod.mk.inj (sm_inj h)).1, rfl, (Prod.mk.inj (sm_inj h)).2⟩ hr dX9_panes_34
  · have h := if_f c3 h
    refine wg_iload_n X 2 dX9_panes_7 rfl rfl ?_
    obtain ⟨r5, h4, h⟩ := bd_some h
    refine wg_callSi (As := [.int p2]) (rest := []) X (c_X9_isSpot l E ad S C M p2  h4) T_yX9_isSpot k_1158 dX9_panes_8 rfl rfl (Nat.le_of_ble_eq_true rfl) ⟨Nat.le_of_ble_eq_true rfl, Nat.le_of_ble_eq_true rfl⟩ ⟨Nat.zero_le _, Nat.zero_le _⟩ ?_
    refine wg_if_eq X 32 dX9_panes_11 (by decide) (fun c6 => ?_) (fun c6 => ?_)
    · have h := if_t c6 h
      refine wg_bipush (v := -2) X dX9_panes_32 (by decide) ?_
      exact wg_iret X ⟨(Prod.mk.inj (sm_inj h)).1, rfl, (Prod.mk.inj (sm_inj h)).2⟩ hr dX9_panes_34
    · have h := if_f c6 h
      refine wg_iload_n X 3 dX9_panes_14 rfl rfl ?_
      obtain ⟨r8, h7, h⟩ := bd_some h
      refine wg_callSi (As := [.int p3]) (rest := []) X (c_X9_isSort l E ad S C M p3  h7) T_yX9_isSort k_1058 dX9_panes_15 rfl rfl (Nat.le_of_ble_eq_true rfl) ⟨Nat.le_of_ble_eq_true rfl, Nat.le_of_ble_eq_true rfl⟩ ⟨Nat.zero_le _, Nat.zero_le _⟩ ?_
      refine wg_if_eq X 32 dX9_panes_18 (by decide) (fun c9 => ?_) (fun c9 => ?_)
      · have h := if_t c9 h
        refine wg_bipush (v := -2) X dX9_panes_32 (by decide) ?_
        exact wg_iret X ⟨(Prod.mk.inj (sm_inj h)).1, rfl, (Prod.mk.inj (sm_inj h)).2⟩ hr dX9_panes_34
      · have h := if_f c9 h
        refine wg_iload X 4 dX9_panes_21 rfl ?_
        refine wg_i2l X dX9_panes_23 ?_
        refine wg_lconst (v := 0) X dX9_panes_24 (by decide) ?_
        refine wg_lconst (v := 1) X dX9_panes_25 (by decide) ?_
        obtain ⟨r11, h10, h⟩ := bd_some h
        refine wg_callSi (As := [.long (p4.toInt64), .long (0 : Int64), .long (1 : Int64)]) (rest := []) X (c_X9_in l E ad S C M p4.toInt64 (0 : Int64) (1 : Int64)  h10) T_yX9_in k_1021 dX9_panes_26 rfl rfl (Nat.le_of_ble_eq_true rfl) ⟨Nat.le_of_ble_eq_true rfl, Nat.le_of_ble_eq_true rfl⟩ ⟨Nat.zero_le _, Nat.zero_le _⟩ ?_
        refine wg_if_ne X 35 dX9_panes_29 (by decide) (fun c12 => ?_) (fun c12 => ?_)
        · have h := if_f c12 h
          refine wg_aload_n X 0 dX9_panes_35 rfl rfl ?_
          refine wg_iload_n X 1 dX9_panes_36 rfl rfl ?_
          refine wg_iload_n X 3 dX9_panes_37 rfl rfl ?_
          refine wg_iconst (v := 0) X dX9_panes_38 (by decide) ?_
          obtain ⟨M14, h13, h⟩ := bd_some h
          refine wg_callVv (As := [.int p1, .int p3, .int (0 : Int32)]) (rest := []) X (c_X9_spreads l E ad S hS N C M p1 p3 (0 : Int32)  h13) T_yX9_spreads k_1162 cl9 (SMi hS 55 9 rfl) dX9_panes_39 rfl rfl (Nat.le_of_ble_eq_true rfl) ⟨Nat.le_of_ble_eq_true rfl, Nat.le_of_ble_eq_true rfl⟩ ⟨Nat.zero_le _, Nat.zero_le _⟩ ?_
          refine wg_aload_n X 0 dX9_panes_42 rfl rfl ?_
          refine wg_getR (b := 65) X cl9 (SMi hS 55 9 rfl) 30 (by decide) dX9_panes_43 k_912 rfl (SMr hS 30 65 rfl) ?_
          refine wg_iload_n X 2 dX9_panes_46 rfl rfl ?_
          obtain ⟨z15, h⟩ := ck_some h
          refine wg_mald X (SMi hS 65 11 rfl) (SMl hS 65 192 rfl) z15 dX9_panes_47 ?_
          refine wg_ldcw (v := 99999999) X dX9_panes_48 k_1173 ?_
          refine wg_icmp_ne X 58 dX9_panes_51 (by decide) (fun c16 => ?_) (fun c16 => ?_)
          · have h := if_f c16 h
            refine wg_iload X 4 dX9_panes_58 rfl ?_
            refine wg_if_ne X 76 dX9_panes_60 (by decide) (fun c17 => ?_) (fun c17 => ?_)
            · have h := if_f c17 h
              refine wg_aload_n X 0 dX9_panes_76 rfl rfl ?_
              refine wg_getR (b := 65) X cl9 (SMi hS 55 9 rfl) 30 (by decide) dX9_panes_77 k_912 rfl (SMr hS 30 65 rfl) ?_
              refine wg_iload_n X 2 dX9_panes_80 rfl rfl ?_
              obtain ⟨z18, h⟩ := ck_some h
              refine wg_mald X (SMi hS 65 11 rfl) (SMl hS 65 192 rfl) z18 dX9_panes_81 ?_
              refine wg_sipush (v := 10000) X dX9_panes_82 (by decide) ?_
              refine wg_irem X dX9_panes_85 (by decide) ?_
              exact wg_iret X ⟨(Prod.mk.inj (sm_inj h)).1, rfl, (Prod.mk.inj (sm_inj h)).2⟩ hr dX9_panes_86
            · have h := if_t c17 h
              refine wg_aload_n X 0 dX9_panes_63 rfl rfl ?_
              refine wg_getR (b := 65) X cl9 (SMi hS 55 9 rfl) 30 (by decide) dX9_panes_64 k_912 rfl (SMr hS 30 65 rfl) ?_
              refine wg_iload_n X 2 dX9_panes_67 rfl rfl ?_
              obtain ⟨z19, h⟩ := ck_some h
              refine wg_mald X (SMi hS 65 11 rfl) (SMl hS 65 192 rfl) z19 dX9_panes_68 ?_
              refine wg_sipush (v := 10000) X dX9_panes_69 (by decide) ?_
              refine wg_idiv X dX9_panes_72 (by decide) ?_
              refine wg_goto X 86 dX9_panes_73 (by decide) ?_
              exact wg_iret X ⟨(Prod.mk.inj (sm_inj h)).1, rfl, (Prod.mk.inj (sm_inj h)).2⟩ hr dX9_panes_86
          · have h := if_t c16 h
            refine wg_iconst (v := -1) X dX9_panes_54 (by decide) ?_
            refine wg_goto X 86 dX9_panes_55 (by decide) ?_
            exact wg_iret X ⟨(Prod.mk.inj (sm_inj h)).1, rfl, (Prod.mk.inj (sm_inj h)).2⟩ hr dX9_panes_86
        · have h := if_t c12 h
          refine wg_bipush (v := -2) X dX9_panes_32 (by decide) ?_
          exact wg_iret X ⟨(Prod.mk.inj (sm_inj h)).1, rfl, (Prod.mk.inj (sm_inj h)).2⟩ hr dX9_panes_34
-- WindowsGiveModel.cost(III)I (('c', 55), 'i', 'i', 'i')
def f_X9_cost (N : Nat) (M : wg_M) (p1 : Int32) (p2 : Int32) (p3 : Int32) : Option (Int32 × wg_M) :=
  bd (f_X9_isSpot p1) fun r2 =>
  if r2 = 0 then (
    some ((-2 : Int32), M))
  else (
    bd (f_X9_isSpot p2) fun r5 =>
    if r5 = 0 then (
      some ((-2 : Int32), M))
    else (
      bd (f_X9_isSort p3) fun r8 =>
      if r8 = 0 then (
        some ((-2 : Int32), M))
      else (
        bd (f_X9_spreads N M p1 p3 (1 : Int32)) fun M11 =>
        ck (inb p2 192) <|
        if (M11.1 65 p2.toNatClampNeg) = (99999999 : Int32) then (
          some ((-1 : Int32), M11))
        else (
          ck (inb p2 192) <|
          some ((M11.1 65 p2.toNatClampNeg), M11)))))
set_option maxHeartbeats 4000000 in
set_option maxRecDepth 100000 in
theorem c_X9_cost (l : Launch) (E : wg_Ev) (ad : Nat → Nat) (S : wg_Sh) (hS : wg_SM S) (N : Nat) (C : wg_C) (M : wg_M) (p1 : Int32) (p2 : Int32) (p3 : Int32)  {r0 : Int32} {D0 : wg_M} (h : f_X9_cost N M p1 p2 p3 = some (r0, D0)) : wg_Ci l yX9_cost cX9_cost 4 (some .int) 77 2978 E ad S C M [.ref (ad 55), .int p1, .int p2, .int p3] r0 C D0 := by
  refine wg_start (own := RX9) (by decide +kernel) rfl (Nat.le_of_ble_eq_true rfl) ?_
  intro p e s m below meth c X hr hnm
  refine wg_lv (lv' := [(0, .ref (ad 55)), (1, .int p1), (2, .int p2), (3, .int p3)]) rfl ?_
  unfold f_X9_cost at h
  refine wg_iload_n X 1 dX9_cost_0 rfl rfl ?_
  obtain ⟨r2, h1, h⟩ := bd_some h
  refine wg_callSi (As := [.int p1]) (rest := []) X (c_X9_isSpot l E ad S C M p1  h1) T_yX9_isSpot k_1158 dX9_cost_1 rfl rfl (Nat.le_of_ble_eq_true rfl) ⟨Nat.le_of_ble_eq_true rfl, Nat.le_of_ble_eq_true rfl⟩ ⟨Nat.zero_le _, Nat.zero_le _⟩ ?_
  refine wg_if_eq X 21 dX9_cost_4 (by decide) (fun c3 => ?_) (fun c3 => ?_)
  · have h := if_t c3 h
    refine wg_bipush (v := -2) X dX9_cost_21 (by decide) ?_
    exact wg_iret X ⟨(Prod.mk.inj (sm_inj h)).1, rfl, (Prod.mk.inj (sm_inj h)).2⟩ hr dX9_cost_23
  · have h := if_f c3 h
    refine wg_iload_n X 2 dX9_cost_7 rfl rfl ?_
    obtain ⟨r5, h4, h⟩ := bd_some h
    refine wg_callSi (As := [.int p2]) (rest := []) X (c_X9_isSpot l E ad S C M p2  h4) T_yX9_isSpot k_1158 dX9_cost_8 rfl rfl (Nat.le_of_ble_eq_true rfl) ⟨Nat.le_of_ble_eq_true rfl, Nat.le_of_ble_eq_true rfl⟩ ⟨Nat.zero_le _, Nat.zero_le _⟩ ?_
    refine wg_if_eq X 21 dX9_cost_11 (by decide) (fun c6 => ?_) (fun c6 => ?_)
    · have h := if_t c6 h
      refine wg_bipush (v := -2) X dX9_cost_21 (by decide) ?_
      exact wg_iret X ⟨(Prod.mk.inj (sm_inj h)).1, rfl, (Prod.mk.inj (sm_inj h)).2⟩ hr dX9_cost_23
    · have h := if_f c6 h
      refine wg_iload_n X 3 dX9_cost_14 rfl rfl ?_
      obtain ⟨r8, h7, h⟩ := bd_some h
      refine wg_callSi (As := [.int p3]) (rest := []) X (c_X9_isSort l E ad S C M p3  h7) T_yX9_isSort k_1058 dX9_cost_15 rfl rfl (Nat.le_of_ble_eq_true rfl) ⟨Nat.le_of_ble_eq_true rfl, Nat.le_of_ble_eq_true rfl⟩ ⟨Nat.zero_le _, Nat.zero_le _⟩ ?_
      refine wg_if_ne X 24 dX9_cost_18 (by decide) (fun c9 => ?_) (fun c9 => ?_)
      · have h := if_f c9 h
        refine wg_aload_n X 0 dX9_cost_24 rfl rfl ?_
        refine wg_iload_n X 1 dX9_cost_25 rfl rfl ?_
        refine wg_iload_n X 3 dX9_cost_26 rfl rfl ?_
        refine wg_iconst (v := 1) X dX9_cost_27 (by decide) ?_
        obtain ⟨M11, h10, h⟩ := bd_some h
        refine wg_callVv (As := [.int p1, .int p3, .int (1 : Int32)]) (rest := []) X (c_X9_spreads l E ad S hS N C M p1 p3 (1 : Int32)  h10) T_yX9_spreads k_1162 cl9 (SMi hS 55 9 rfl) dX9_cost_28 rfl rfl (Nat.le_of_ble_eq_true rfl) ⟨Nat.le_of_ble_eq_true rfl, Nat.le_of_ble_eq_true rfl⟩ ⟨Nat.zero_le _, Nat.zero_le _⟩ ?_
        refine wg_aload_n X 0 dX9_cost_31 rfl rfl ?_
        refine wg_getR (b := 65) X cl9 (SMi hS 55 9 rfl) 30 (by decide) dX9_cost_32 k_912 rfl (SMr hS 30 65 rfl) ?_
        refine wg_iload_n X 2 dX9_cost_35 rfl rfl ?_
        obtain ⟨z12, h⟩ := ck_some h
        refine wg_mald X (SMi hS 65 11 rfl) (SMl hS 65 192 rfl) z12 dX9_cost_36 ?_
        refine wg_ldcw (v := 99999999) X dX9_cost_37 k_1173 ?_
        refine wg_icmp_ne X 47 dX9_cost_40 (by decide) (fun c13 => ?_) (fun c13 => ?_)
        · have h := if_f c13 h
          refine wg_aload_n X 0 dX9_cost_47 rfl rfl ?_
          refine wg_getR (b := 65) X cl9 (SMi hS 55 9 rfl) 30 (by decide) dX9_cost_48 k_912 rfl (SMr hS 30 65 rfl) ?_
          refine wg_iload_n X 2 dX9_cost_51 rfl rfl ?_
          obtain ⟨z14, h⟩ := ck_some h
          refine wg_mald X (SMi hS 65 11 rfl) (SMl hS 65 192 rfl) z14 dX9_cost_52 ?_
          exact wg_iret X ⟨(Prod.mk.inj (sm_inj h)).1, rfl, (Prod.mk.inj (sm_inj h)).2⟩ hr dX9_cost_53
        · have h := if_t c13 h
          refine wg_iconst (v := -1) X dX9_cost_43 (by decide) ?_
          refine wg_goto X 53 dX9_cost_44 (by decide) ?_
          exact wg_iret X ⟨(Prod.mk.inj (sm_inj h)).1, rfl, (Prod.mk.inj (sm_inj h)).2⟩ hr dX9_cost_53
      · have h := if_t c9 h
        refine wg_bipush (v := -2) X dX9_cost_21 (by decide) ?_
        exact wg_iret X ⟨(Prod.mk.inj (sm_inj h)).1, rfl, (Prod.mk.inj (sm_inj h)).2⟩ hr dX9_cost_23
-- WindowsGiveModel.earliest(III)I (('c', 55), 'i', 'i', 'i')
def f_X9_earliest_l34 (N : Nat) (M : wg_M)  (x2 : Int32) (x4 : Int32) : Option ((Int32) ⊕ ((Int32) ⊕ (Int32 × wg_M))) :=
  if (32 : Int32) ≤ x4 then (
    some (.inr (.inl x4)))
  else (
    ck (inb (((32 : Int32) * x2) + x4) 192) <|
    if (99999999 : Int32) ≤ (M.1 65 (((32 : Int32) * x2) + x4).toNatClampNeg) then (
      lt_ (x4 + (1 : Int32)) fun v15 =>
      some (.inl v15))
    else (
      some (.inr (.inr (x4, M)))))
def f_X9_earliest (N : Nat) (M : wg_M) (p1 : Int32) (p2 : Int32) (p3 : Int32) : Option (Int32 × wg_M) :=
  bd (f_X9_isSpot p1) fun r2 =>
  if r2 = 0 then (
    some ((-2 : Int32), M))
  else (
    bd (f_X9_isRoom p2) fun r5 =>
    if r5 = 0 then (
      some ((-2 : Int32), M))
    else (
      bd (f_X9_isSort p3) fun r8 =>
      if r8 = 0 then (
        some ((-2 : Int32), M))
      else (
        bd (f_X9_spreads N M p1 p3 (0 : Int32)) fun M11 =>
        bs1 (lp (fun o => f_X9_earliest_l34 N M11  p2 o) N (0 : Int32)) (fun v17 =>
          some ((-1 : Int32), M11))
          (fun q20 => some q20))))
abbrev G_X9_earliest (p : Program) (l : Launch) (e : Env) (s : State) (m : MethodId) (args : Array Value) (below : List Frame) (meth : Method) (c : Code) (E : wg_Ev) (ad : Nat → Nat) (S : wg_Sh) (r0 : Int32) (C0 : wg_C) (M0 : wg_M) (pc : Nat) (C : wg_C) (M : wg_M) (lv : List (Nat × Value)) (st : List Value) : Prop := wg_G p l e (wg_Rm 77 2978) s m args below meth c (MQ below (wg_Qi E ad S r0 C0 M0) args s 0 0 (wg_A E)) 5 E ad S 0 0 pc C M lv st
set_option maxHeartbeats 4000000 in
set_option maxRecDepth 100000 in
theorem L_X9_earliest_l34 {p : Program} {l : Launch} {e : Env} {s : State} {m : MethodId} {args : Array Value} {below : List Frame} {meth : Method} {c : Code} {E : wg_Ev} {ad : Nat → Nat} {S : wg_Sh} (X : wg_X p s m args meth c cX9_earliest 5 RX9 E) (hr : meth.sig.returnType = (some .int)) (hS : wg_SM S) (r0 : Int32) (D0 : wg_M) (C : wg_C) (N : Nat)  (M : wg_M)  (x2 : Int32)  : ∀ (n : Nat) (x4 : Int32) (o : ((Int32) ⊕ (Int32 × wg_M))), lp (fun o => f_X9_earliest_l34 N M  x2 o) n x4 = some o → (∀ (y4 : Int32), o = Sum.inl y4 → G_X9_earliest p l e s m args below meth c E ad S r0 C D0 68 C M [(0, .ref (ad 55)), (2, .int x2), (4, .int y4)] []) → (∀ q : (Int32 × wg_M), o = Sum.inr q → q = (r0, D0)) → G_X9_earliest p l e s m args below meth c E ad S r0 C D0 34 C M [(0, .ref (ad 55)), (2, .int x2), (4, .int x4)] [] := by
  intro n
  induction n with
  | zero => exact fun _ o h => (lp_zero h).elim
  | succ n ih =>
    intro x4 o h K KR
    obtain ⟨o1, hb, h2⟩ := lp_some h
    replace hb : f_X9_earliest_l34 N M  x2 x4 = some o1 := hb
    clear h
    have Kc : ∀ (y4 : Int32), o1 = Sum.inl y4 → G_X9_earliest p l e s m args below meth c E ad S r0 C D0 34 C M [(0, .ref (ad 55)), (2, .int x2), (4, .int y4)] [] := fun y4 e1 => by
      subst e1
      exact ih y4 o h2 K KR
    have Ke : ∀ (y4 : Int32), o1 = Sum.inr (Sum.inl y4) → G_X9_earliest p l e s m args below meth c E ad S r0 C D0 68 C M [(0, .ref (ad 55)), (2, .int x2), (4, .int y4)] [] := fun y4 e1 => by
      subst e1
      exact K y4 (sm_inj (α := ((Int32) ⊕ (Int32 × wg_M))) h2).symm
    have Kr : ∀ q : (Int32 × wg_M), o1 = Sum.inr (Sum.inr q) → q = (r0, D0) := fun q e1 => by
      subst e1
      exact KR q (sm_inj (α := ((Int32) ⊕ (Int32 × wg_M))) h2).symm
    clear ih K h2 KR
    unfold f_X9_earliest_l34 at hb
    have h := hb
    clear hb
    refine wg_iload X 2 dX9_earliest_34 rfl ?_
    refine wg_bipush (v := 32) X dX9_earliest_36 (by decide) ?_
    refine wg_icmp_ge X 68 dX9_earliest_38 (by decide) (fun c12 => ?_) (fun c12 => ?_)
    · have h := if_t c12 h
      exact Ke x4 (sm_inj h).symm
    · have h := if_f c12 h
      refine wg_aload_n X 0 dX9_earliest_41 rfl rfl ?_
      refine wg_getR (b := 65) X cl9 (SMi hS 55 9 rfl) 30 (by decide) dX9_earliest_42 k_912 rfl (SMr hS 30 65 rfl) ?_
      refine wg_bipush (v := 32) X dX9_earliest_45 (by decide) ?_
      refine wg_iload_n X 1 dX9_earliest_47 rfl rfl ?_
      refine wg_imul X dX9_earliest_48 ?_
      refine wg_iload X 2 dX9_earliest_49 rfl ?_
      refine wg_iadd X dX9_earliest_51 ?_
      obtain ⟨z13, h⟩ := ck_some h
      refine wg_mald X (SMi hS 65 11 rfl) (SMl hS 65 192 rfl) z13 dX9_earliest_52 ?_
      refine wg_ldcw (v := 99999999) X dX9_earliest_53 k_1173 ?_
      refine wg_icmp_ge X 62 dX9_earliest_56 (by decide) (fun c14 => ?_) (fun c14 => ?_)
      · have h := if_t c14 h
        obtain ⟨v15, e16, h⟩ := lt_some h
        refine wg_iinc (lv' := [(4, .int v15), (0, .ref (ad 55)), (2, .int x2)]) X 2 dX9_earliest_62 rfl e16 (by decide) rfl ?_
        refine wg_goto X 34 dX9_earliest_65 (by decide) ?_
        refine wg_pick [1, 2, 0] (lv' := [(0, .ref (ad 55)), (2, .int x2), (4, .int v15)]) rfl ?_
        exact Kc v15 (sm_inj h).symm
      · have h := if_f c14 h
        refine wg_iload X 2 dX9_earliest_59 rfl ?_
        have hq := Kr _ (sm_inj h).symm
        exact wg_iret X ⟨(Prod.mk.inj hq).1, rfl, (Prod.mk.inj hq).2⟩ hr dX9_earliest_61
set_option maxHeartbeats 4000000 in
set_option maxRecDepth 100000 in
theorem c_X9_earliest (l : Launch) (E : wg_Ev) (ad : Nat → Nat) (S : wg_Sh) (hS : wg_SM S) (N : Nat) (C : wg_C) (M : wg_M) (p1 : Int32) (p2 : Int32) (p3 : Int32)  {r0 : Int32} {D0 : wg_M} (h : f_X9_earliest N M p1 p2 p3 = some (r0, D0)) : wg_Ci l yX9_earliest cX9_earliest 5 (some .int) 77 2978 E ad S C M [.ref (ad 55), .int p1, .int p2, .int p3] r0 C D0 := by
  refine wg_start (own := RX9) (by decide +kernel) rfl (Nat.le_of_ble_eq_true rfl) ?_
  intro p e s m below meth c X hr hnm
  refine wg_lv (lv' := [(0, .ref (ad 55)), (1, .int p1), (2, .int p2), (3, .int p3)]) rfl ?_
  unfold f_X9_earliest at h
  refine wg_iload_n X 1 dX9_earliest_0 rfl rfl ?_
  obtain ⟨r2, h1, h⟩ := bd_some h
  refine wg_callSi (As := [.int p1]) (rest := []) X (c_X9_isSpot l E ad S C M p1  h1) T_yX9_isSpot k_1158 dX9_earliest_1 rfl rfl (Nat.le_of_ble_eq_true rfl) ⟨Nat.le_of_ble_eq_true rfl, Nat.le_of_ble_eq_true rfl⟩ ⟨Nat.zero_le _, Nat.zero_le _⟩ ?_
  refine wg_if_eq X 21 dX9_earliest_4 (by decide) (fun c3 => ?_) (fun c3 => ?_)
  · have h := if_t c3 h
    refine wg_bipush (v := -2) X dX9_earliest_21 (by decide) ?_
    exact wg_iret X ⟨(Prod.mk.inj (sm_inj h)).1, rfl, (Prod.mk.inj (sm_inj h)).2⟩ hr dX9_earliest_23
  · have h := if_f c3 h
    refine wg_iload_n X 2 dX9_earliest_7 rfl rfl ?_
    obtain ⟨r5, h4, h⟩ := bd_some h
    refine wg_callSi (As := [.int p2]) (rest := []) X (c_X9_isRoom l E ad S C M p2  h4) T_yX9_isRoom k_1050 dX9_earliest_8 rfl rfl (Nat.le_of_ble_eq_true rfl) ⟨Nat.le_of_ble_eq_true rfl, Nat.le_of_ble_eq_true rfl⟩ ⟨Nat.zero_le _, Nat.zero_le _⟩ ?_
    refine wg_if_eq X 21 dX9_earliest_11 (by decide) (fun c6 => ?_) (fun c6 => ?_)
    · have h := if_t c6 h
      refine wg_bipush (v := -2) X dX9_earliest_21 (by decide) ?_
      exact wg_iret X ⟨(Prod.mk.inj (sm_inj h)).1, rfl, (Prod.mk.inj (sm_inj h)).2⟩ hr dX9_earliest_23
    · have h := if_f c6 h
      refine wg_iload_n X 3 dX9_earliest_14 rfl rfl ?_
      obtain ⟨r8, h7, h⟩ := bd_some h
      refine wg_callSi (As := [.int p3]) (rest := []) X (c_X9_isSort l E ad S C M p3  h7) T_yX9_isSort k_1058 dX9_earliest_15 rfl rfl (Nat.le_of_ble_eq_true rfl) ⟨Nat.le_of_ble_eq_true rfl, Nat.le_of_ble_eq_true rfl⟩ ⟨Nat.zero_le _, Nat.zero_le _⟩ ?_
      refine wg_if_ne X 24 dX9_earliest_18 (by decide) (fun c9 => ?_) (fun c9 => ?_)
      · have h := if_f c9 h
        refine wg_aload_n X 0 dX9_earliest_24 rfl rfl ?_
        refine wg_iload_n X 1 dX9_earliest_25 rfl rfl ?_
        refine wg_iload_n X 3 dX9_earliest_26 rfl rfl ?_
        refine wg_iconst (v := 0) X dX9_earliest_27 (by decide) ?_
        obtain ⟨M11, h10, h⟩ := bd_some h
        refine wg_callVv (As := [.int p1, .int p3, .int (0 : Int32)]) (rest := []) X (c_X9_spreads l E ad S hS N C M p1 p3 (0 : Int32)  h10) T_yX9_spreads k_1162 cl9 (SMi hS 55 9 rfl) dX9_earliest_28 rfl rfl (Nat.le_of_ble_eq_true rfl) ⟨Nat.le_of_ble_eq_true rfl, Nat.le_of_ble_eq_true rfl⟩ ⟨Nat.zero_le _, Nat.zero_le _⟩ ?_
        refine wg_iconst (v := 0) X dX9_earliest_31 (by decide) ?_
        refine wg_istore (lv' := [(4, .int (0 : Int32)), (0, .ref (ad 55)), (1, .int p1), (2, .int p2), (3, .int p3)]) X dX9_earliest_32 rfl (by decide) rfl ?_
        obtain ⟨o18, h19, h⟩ := bs1_o h
        refine wg_pick [1, 3, 0] (lv' := [(0, .ref (ad 55)), (2, .int p2), (4, .int (0 : Int32))]) rfl ?_
        refine L_X9_earliest_l34 X hr hS r0 D0 C N  M11  p2  N (0 : Int32) o18 h19 (fun v17 e21 => ?_) (fun q20 e21 => ?_)
        · subst o18
          replace h := bs1_in h
          refine wg_iconst (v := -1) X dX9_earliest_68 (by decide) ?_
          exact wg_iret X ⟨(Prod.mk.inj (sm_inj h)).1, rfl, (Prod.mk.inj (sm_inj h)).2⟩ hr dX9_earliest_69
        · subst o18
          replace h := bs1_r h
          exact sm_inj h
      · have h := if_t c9 h
        refine wg_bipush (v := -2) X dX9_earliest_21 (by decide) ?_
        exact wg_iret X ⟨(Prod.mk.inj (sm_inj h)).1, rfl, (Prod.mk.inj (sm_inj h)).2⟩ hr dX9_earliest_23
-- WindowsGiveModel.loop(II)I (('c', 55), 'i', 'i')
def f_X9_loop_l96 (N : Nat) (M : wg_M)  (x1 : Int32) (x2 : Int32) (x4 : Int32) (x5 : Int32) (x3 : Int32) (x6 : Int32) : Option ((Int32 × Int32) ⊕ (Int32 × Int32)) :=
  if (M.1 55 13) ≤ x6 then (
    some (.inr (x3, x6)))
  else (
    ck (inb x6 8) <|
    if (M.1 63 x6.toNatClampNeg) = (x4 / (32 : Int32)) then (
      bd (f_X9_passes M x6 x5 x2) fun r23 =>
      if r23 = 0 then (
        lt_ (x6 + (1 : Int32)) fun v25 =>
        some (.inl (x3, v25)))
      else (
        bd (f_X9_leads M x6) fun r28 =>
        bd (f_X9_on M x6 x5) fun r30 =>
        if (((32 : Int32) * r28) + r30) = x1 then (
          ck (inb x4 192) <|
          if x3 ≤ ((M.1 65 x4.toNatClampNeg) + (10000 : Int32)) then (
            lt_ (x6 + (1 : Int32)) fun v36 =>
            some (.inl (x3, v36)))
          else (
            ck (inb x4 192) <|
            lt_ ((M.1 65 x4.toNatClampNeg) + (10000 : Int32)) fun v39 =>
            lt_ (x6 + (1 : Int32)) fun v41 =>
            some (.inl (v39, v41))))
        else (
          lt_ (x6 + (1 : Int32)) fun v32 =>
          some (.inl (x3, v32)))))
    else (
      lt_ (x6 + (1 : Int32)) fun v20 =>
      some (.inl (x3, v20))))
def f_X9_loop_j93l31 (N : Nat) (M : wg_M)  (x1 : Int32) (x2 : Int32) (x3 : Int32) (x4 : Int32) (x5 : Int32) : Option ((Int32 × Int32) ⊕ (Int32 × Int32)) :=
  bd2 (lp (fun o => f_X9_loop_l96 N M  x1 x2 x4 x5 o.1 o.2) N (x3, (0 : Int32))) fun v43 v44 =>
  lt_ (x4 + (1 : Int32)) fun v49 =>
  some (.inl (v43, v49))
def f_X9_loop_l31 (N : Nat) (M : wg_M)  (x1 : Int32) (x2 : Int32) (x3 : Int32) (x4 : Int32) : Option ((Int32 × Int32) ⊕ (Int32 × Int32)) :=
  if (192 : Int32) ≤ x4 then (
    some (.inr (x3, x4)))
  else (
    ck (inb x4 192) <|
    if (99999999 : Int32) ≤ (M.1 65 x4.toNatClampNeg) then (
      lt_ (x4 + (1 : Int32)) fun v12 =>
      some (.inl (x3, v12)))
    else (
      lt_ (x4 - x4 / (32 : Int32) * (32 : Int32)) fun v14 =>
      if (31 : Int32) ≤ v14 then (
        f_X9_loop_j93l31 N M  x1 x2 x3 x4 v14)
      else (
        if (x4 + (1 : Int32)) = x1 then (
          ck (inb x4 192) <|
          if x3 ≤ (M.1 65 x4.toNatClampNeg) then (
            f_X9_loop_j93l31 N M  x1 x2 x3 x4 v14)
          else (
            ck (inb x4 192) <|
            lt_ (M.1 65 x4.toNatClampNeg) fun v55 =>
            f_X9_loop_j93l31 N M  x1 x2 v55 x4 v14))
        else (
          f_X9_loop_j93l31 N M  x1 x2 x3 x4 v14))))
def f_X9_loop (N : Nat) (M : wg_M) (p1 : Int32) (p2 : Int32) : Option (Int32 × wg_M) :=
  bd (f_X9_isSpot p1) fun r2 =>
  if r2 = 0 then (
    some ((-2 : Int32), M))
  else (
    bd (f_X9_isSort p2) fun r5 =>
    if r5 = 0 then (
      some ((-2 : Int32), M))
    else (
      bd (f_X9_spreads N M p1 p2 (0 : Int32)) fun M8 =>
      bd2 (lp (fun o => f_X9_loop_l31 N M8  p1 p2 o.1 o.2) N ((99999999 : Int32), (0 : Int32))) fun v57 v58 =>
      if v57 = (99999999 : Int32) then (
        some ((-1 : Int32), M8))
      else (
        some ((v57 / (10000 : Int32)), M8))))
abbrev G_X9_loop (p : Program) (l : Launch) (e : Env) (s : State) (m : MethodId) (args : Array Value) (below : List Frame) (meth : Method) (c : Code) (E : wg_Ev) (ad : Nat → Nat) (S : wg_Sh) (r0 : Int32) (C0 : wg_C) (M0 : wg_M) (pc : Nat) (C : wg_C) (M : wg_M) (lv : List (Nat × Value)) (st : List Value) : Prop := wg_G p l e (wg_Rm 77 2978) s m args below meth c (MQ below (wg_Qi E ad S r0 C0 M0) args s 0 0 (wg_A E)) 7 E ad S 0 0 pc C M lv st
set_option maxHeartbeats 4000000 in
set_option maxRecDepth 100000 in
theorem L_X9_loop_l96 {p : Program} {l : Launch} {e : Env} {s : State} {m : MethodId} {args : Array Value} {below : List Frame} {meth : Method} {c : Code} {E : wg_Ev} {ad : Nat → Nat} {S : wg_Sh} (X : wg_X p s m args meth c cX9_loop 7 RX9 E) (hr : meth.sig.returnType = (some .int)) (hS : wg_SM S) (r0 : Int32) (D0 : wg_M) (C : wg_C) (N : Nat)  (M : wg_M)  (x1 : Int32) (x2 : Int32) (x4 : Int32) (x5 : Int32)  : ∀ (n : Nat) (x3 : Int32) (x6 : Int32) (o : (Int32 × Int32)), lp (fun o => f_X9_loop_l96 N M  x1 x2 x4 x5 o.1 o.2) n (x3, x6) = some o → (∀ (y3 : Int32) (y6 : Int32), o = (y3, y6) → G_X9_loop p l e s m args below meth c E ad S r0 C D0 187 C M [(0, .ref (ad 55)), (1, .int x1), (2, .int x2), (3, .int y3), (4, .int x4), (5, .int x5), (6, .int y6)] []) → G_X9_loop p l e s m args below meth c E ad S r0 C D0 96 C M [(0, .ref (ad 55)), (1, .int x1), (2, .int x2), (3, .int x3), (4, .int x4), (5, .int x5), (6, .int x6)] [] := by
  intro n
  induction n with
  | zero => exact fun _ _ o h => (lp_zero h).elim
  | succ n ih =>
    intro x3 x6 o h K
    obtain ⟨o1, hb, h2⟩ := lp_some h
    replace hb : f_X9_loop_l96 N M  x1 x2 x4 x5 x3 x6 = some o1 := hb
    clear h
    have Kc : ∀ (y3 : Int32) (y6 : Int32), o1 = Sum.inl (y3, y6) → G_X9_loop p l e s m args below meth c E ad S r0 C D0 96 C M [(0, .ref (ad 55)), (1, .int x1), (2, .int x2), (3, .int y3), (4, .int x4), (5, .int x5), (6, .int y6)] [] := fun y3 y6 e1 => by
      subst e1
      exact ih y3 y6 o h2 K
    have Ke : ∀ (y3 : Int32) (y6 : Int32), o1 = Sum.inr ((y3, y6)) → G_X9_loop p l e s m args below meth c E ad S r0 C D0 187 C M [(0, .ref (ad 55)), (1, .int x1), (2, .int x2), (3, .int y3), (4, .int x4), (5, .int x5), (6, .int y6)] [] := fun y3 y6 e1 => by
      subst e1
      exact K y3 y6 (sm_inj (α := (Int32 × Int32)) h2).symm
    clear ih K h2
    unfold f_X9_loop_l96 at hb
    have h := hb
    clear hb
    refine wg_iload X 6 dX9_loop_96 rfl ?_
    refine wg_aload_n X 0 dX9_loop_98 rfl rfl ?_
    refine wg_getM X cl9 (SMi hS 55 9 rfl) 13 (by decide) dX9_loop_99 k_895 rfl ?_
    refine wg_icmp_ge X 187 dX9_loop_102 (by decide) (fun c17 => ?_) (fun c17 => ?_)
    · have h := if_t c17 h
      exact Ke x3 x6 (sm_inj h).symm
    · have h := if_f c17 h
      refine wg_aload_n X 0 dX9_loop_105 rfl rfl ?_
      refine wg_getR (b := 63) X cl9 (SMi hS 55 9 rfl) 11 (by decide) dX9_loop_106 k_893 rfl (SMr hS 11 63 rfl) ?_
      refine wg_iload X 6 dX9_loop_109 rfl ?_
      obtain ⟨z18, h⟩ := ck_some h
      refine wg_mald X (SMi hS 63 11 rfl) (SMl hS 63 8 rfl) z18 dX9_loop_111 ?_
      refine wg_iload X 4 dX9_loop_112 rfl ?_
      refine wg_bipush (v := 32) X dX9_loop_114 (by decide) ?_
      refine wg_idiv X dX9_loop_116 (by decide) ?_
      refine wg_icmp_ne X 181 dX9_loop_117 (by decide) (fun c19 => ?_) (fun c19 => ?_)
      · have h := if_f c19 h
        obtain ⟨v20, e21, h⟩ := lt_some h
        refine wg_iinc (lv' := [(6, .int v20), (0, .ref (ad 55)), (1, .int x1), (2, .int x2), (3, .int x3), (4, .int x4), (5, .int x5)]) X 6 dX9_loop_181 rfl e21 (by decide) rfl ?_
        refine wg_goto X 96 dX9_loop_184 (by decide) ?_
        refine wg_pick [1, 2, 3, 4, 5, 6, 0] (lv' := [(0, .ref (ad 55)), (1, .int x1), (2, .int x2), (3, .int x3), (4, .int x4), (5, .int x5), (6, .int v20)]) rfl ?_
        exact Kc x3 v20 (sm_inj h).symm
      · have h := if_t c19 h
        refine wg_aload_n X 0 dX9_loop_120 rfl rfl ?_
        refine wg_iload X 6 dX9_loop_121 rfl ?_
        refine wg_iload X 5 dX9_loop_123 rfl ?_
        refine wg_iload_n X 2 dX9_loop_125 rfl rfl ?_
        obtain ⟨r23, h22, h⟩ := bd_some h
        refine wg_callVi (As := [.int x6, .int x5, .int x2]) (rest := []) X (c_X9_passes l E ad S hS C M x6 x5 x2  h22) T_yX9_passes k_1066 cl9 (SMi hS 55 9 rfl) dX9_loop_126 rfl rfl (Nat.le_of_ble_eq_true rfl) ⟨Nat.le_of_ble_eq_true rfl, Nat.le_of_ble_eq_true rfl⟩ ⟨Nat.zero_le _, Nat.zero_le _⟩ ?_
        refine wg_if_eq X 181 dX9_loop_129 (by decide) (fun c24 => ?_) (fun c24 => ?_)
        · have h := if_t c24 h
          obtain ⟨v25, e26, h⟩ := lt_some h
          refine wg_iinc (lv' := [(6, .int v25), (0, .ref (ad 55)), (1, .int x1), (2, .int x2), (3, .int x3), (4, .int x4), (5, .int x5)]) X 6 dX9_loop_181 rfl e26 (by decide) rfl ?_
          refine wg_goto X 96 dX9_loop_184 (by decide) ?_
          refine wg_pick [1, 2, 3, 4, 5, 6, 0] (lv' := [(0, .ref (ad 55)), (1, .int x1), (2, .int x2), (3, .int x3), (4, .int x4), (5, .int x5), (6, .int v25)]) rfl ?_
          exact Kc x3 v25 (sm_inj h).symm
        · have h := if_f c24 h
          refine wg_bipush (v := 32) X dX9_loop_132 (by decide) ?_
          refine wg_aload_n X 0 dX9_loop_134 rfl rfl ?_
          refine wg_iload X 6 dX9_loop_135 rfl ?_
          obtain ⟨r28, h27, h⟩ := bd_some h
          refine wg_callVi (As := [.int x6]) (rest := [.int (32 : Int32)]) X (c_X9_leads l E ad S hS C M x6  h27) T_yX9_leads k_1040 cl9 (SMi hS 55 9 rfl) dX9_loop_137 rfl rfl (Nat.le_of_ble_eq_true rfl) ⟨Nat.le_of_ble_eq_true rfl, Nat.le_of_ble_eq_true rfl⟩ ⟨Nat.zero_le _, Nat.zero_le _⟩ ?_
          refine wg_imul X dX9_loop_140 ?_
          refine wg_aload_n X 0 dX9_loop_141 rfl rfl ?_
          refine wg_iload X 6 dX9_loop_142 rfl ?_
          refine wg_iload X 5 dX9_loop_144 rfl ?_
          obtain ⟨r30, h29, h⟩ := bd_some h
          refine wg_callVi (As := [.int x6, .int x5]) (rest := [.int ((32 : Int32) * r28)]) X (c_X9_on l E ad S hS C M x6 x5  h29) T_yX9_on k_1062 cl9 (SMi hS 55 9 rfl) dX9_loop_146 rfl rfl (Nat.le_of_ble_eq_true rfl) ⟨Nat.le_of_ble_eq_true rfl, Nat.le_of_ble_eq_true rfl⟩ ⟨Nat.zero_le _, Nat.zero_le _⟩ ?_
          refine wg_iadd X dX9_loop_149 ?_
          refine wg_iload_n X 1 dX9_loop_150 rfl rfl ?_
          refine wg_icmp_ne X 181 dX9_loop_151 (by decide) (fun c31 => ?_) (fun c31 => ?_)
          · have h := if_f c31 h
            obtain ⟨v32, e33, h⟩ := lt_some h
            refine wg_iinc (lv' := [(6, .int v32), (0, .ref (ad 55)), (1, .int x1), (2, .int x2), (3, .int x3), (4, .int x4), (5, .int x5)]) X 6 dX9_loop_181 rfl e33 (by decide) rfl ?_
            refine wg_goto X 96 dX9_loop_184 (by decide) ?_
            refine wg_pick [1, 2, 3, 4, 5, 6, 0] (lv' := [(0, .ref (ad 55)), (1, .int x1), (2, .int x2), (3, .int x3), (4, .int x4), (5, .int x5), (6, .int v32)]) rfl ?_
            exact Kc x3 v32 (sm_inj h).symm
          · have h := if_t c31 h
            refine wg_aload_n X 0 dX9_loop_154 rfl rfl ?_
            refine wg_getR (b := 65) X cl9 (SMi hS 55 9 rfl) 30 (by decide) dX9_loop_155 k_912 rfl (SMr hS 30 65 rfl) ?_
            refine wg_iload X 4 dX9_loop_158 rfl ?_
            obtain ⟨z34, h⟩ := ck_some h
            refine wg_mald X (SMi hS 65 11 rfl) (SMl hS 65 192 rfl) z34 dX9_loop_160 ?_
            refine wg_sipush (v := 10000) X dX9_loop_161 (by decide) ?_
            refine wg_iadd X dX9_loop_164 ?_
            refine wg_iload_n X 3 dX9_loop_165 rfl rfl ?_
            refine wg_icmp_ge X 181 dX9_loop_166 (by decide) (fun c35 => ?_) (fun c35 => ?_)
            · have h := if_t c35 h
              obtain ⟨v36, e37, h⟩ := lt_some h
              refine wg_iinc (lv' := [(6, .int v36), (0, .ref (ad 55)), (1, .int x1), (2, .int x2), (3, .int x3), (4, .int x4), (5, .int x5)]) X 6 dX9_loop_181 rfl e37 (by decide) rfl ?_
              refine wg_goto X 96 dX9_loop_184 (by decide) ?_
              refine wg_pick [1, 2, 3, 4, 5, 6, 0] (lv' := [(0, .ref (ad 55)), (1, .int x1), (2, .int x2), (3, .int x3), (4, .int x4), (5, .int x5), (6, .int v36)]) rfl ?_
              exact Kc x3 v36 (sm_inj h).symm
            · have h := if_f c35 h
              refine wg_aload_n X 0 dX9_loop_169 rfl rfl ?_
              refine wg_getR (b := 65) X cl9 (SMi hS 55 9 rfl) 30 (by decide) dX9_loop_170 k_912 rfl (SMr hS 30 65 rfl) ?_
              refine wg_iload X 4 dX9_loop_173 rfl ?_
              obtain ⟨z38, h⟩ := ck_some h
              refine wg_mald X (SMi hS 65 11 rfl) (SMl hS 65 192 rfl) z38 dX9_loop_175 ?_
              refine wg_sipush (v := 10000) X dX9_loop_176 (by decide) ?_
              refine wg_iadd X dX9_loop_179 ?_
              obtain ⟨v39, e40, h⟩ := lt_some h
              refine wg_istore_n (lv' := [(3, .int v39), (0, .ref (ad 55)), (1, .int x1), (2, .int x2), (4, .int x4), (5, .int x5), (6, .int x6)]) X dX9_loop_180 rfl e40 (by decide) rfl ?_
              obtain ⟨v41, e42, h⟩ := lt_some h
              refine wg_iinc (lv' := [(6, .int v41), (3, .int v39), (0, .ref (ad 55)), (1, .int x1), (2, .int x2), (4, .int x4), (5, .int x5)]) X 6 dX9_loop_181 rfl e42 (by decide) rfl ?_
              refine wg_goto X 96 dX9_loop_184 (by decide) ?_
              refine wg_pick [2, 3, 4, 1, 5, 6, 0] (lv' := [(0, .ref (ad 55)), (1, .int x1), (2, .int x2), (3, .int v39), (4, .int x4), (5, .int x5), (6, .int v41)]) rfl ?_
              exact Kc v39 v41 (sm_inj h).symm
set_option maxHeartbeats 4000000 in
set_option maxRecDepth 100000 in
theorem J_X9_loop_j93l31 {p : Program} {l : Launch} {e : Env} {s : State} {m : MethodId} {args : Array Value} {below : List Frame} {meth : Method} {c : Code} {E : wg_Ev} {ad : Nat → Nat} {S : wg_Sh} (X : wg_X p s m args meth c cX9_loop 7 RX9 E) (hr : meth.sig.returnType = (some .int)) (hS : wg_SM S) (r0 : Int32) (D0 : wg_M) (C : wg_C) (N : Nat)  (M : wg_M)  (x1 : Int32) (x2 : Int32) (x3 : Int32) (x4 : Int32) (x5 : Int32)  (y : ((Int32 × Int32) ⊕ (Int32 × Int32))) (Kc : ∀ (y3 : Int32) (y4 : Int32), y = Sum.inl (y3, y4) → G_X9_loop p l e s m args below meth c E ad S r0 C D0 31 C M [(0, .ref (ad 55)), (1, .int x1), (2, .int x2), (3, .int y3), (4, .int y4)] []) (Ke : ∀ (y3 : Int32) (y4 : Int32), y = Sum.inr ((y3, y4)) → G_X9_loop p l e s m args below meth c E ad S r0 C D0 193 C M [(0, .ref (ad 55)), (1, .int x1), (2, .int x2), (3, .int y3), (4, .int y4)] []) (h : f_X9_loop_j93l31 N M  x1 x2 x3 x4 x5 = some y) : G_X9_loop p l e s m args below meth c E ad S r0 C D0 93 C M [(0, .ref (ad 55)), (1, .int x1), (2, .int x2), (3, .int x3), (4, .int x4), (5, .int x5)] [] := by
  unfold f_X9_loop_j93l31 at h
  refine wg_iconst (v := 0) X dX9_loop_93 (by decide) ?_
  refine wg_istore (lv' := [(6, .int (0 : Int32)), (0, .ref (ad 55)), (1, .int x1), (2, .int x2), (3, .int x3), (4, .int x4), (5, .int x5)]) X dX9_loop_94 rfl (by decide) rfl ?_
  obtain ⟨o45, h46, h⟩ := bd2_o h
  refine wg_pick [1, 2, 3, 4, 5, 6, 0] (lv' := [(0, .ref (ad 55)), (1, .int x1), (2, .int x2), (3, .int x3), (4, .int x4), (5, .int x5), (6, .int (0 : Int32))]) rfl ?_
  refine L_X9_loop_l96 X hr hS r0 D0 C N  M  x1 x2 x4 x5  N x3 (0 : Int32) o45 h46 (fun v43 v44 e48 => ?_)
  · subst o45
    replace h := bd2_in h
    obtain ⟨v49, e50, h⟩ := lt_some h
    refine wg_iinc (lv' := [(4, .int v49), (0, .ref (ad 55)), (1, .int x1), (2, .int x2), (3, .int v43), (5, .int x5), (6, .int v44)]) X 4 dX9_loop_187 rfl e50 (by decide) rfl ?_
    refine wg_goto X 31 dX9_loop_190 (by decide) ?_
    refine wg_pick [1, 2, 3, 4, 0] (lv' := [(0, .ref (ad 55)), (1, .int x1), (2, .int x2), (3, .int v43), (4, .int v49)]) rfl ?_
    exact Kc v43 v49 (sm_inj h).symm
set_option maxHeartbeats 4000000 in
set_option maxRecDepth 100000 in
theorem L_X9_loop_l31 {p : Program} {l : Launch} {e : Env} {s : State} {m : MethodId} {args : Array Value} {below : List Frame} {meth : Method} {c : Code} {E : wg_Ev} {ad : Nat → Nat} {S : wg_Sh} (X : wg_X p s m args meth c cX9_loop 7 RX9 E) (hr : meth.sig.returnType = (some .int)) (hS : wg_SM S) (r0 : Int32) (D0 : wg_M) (C : wg_C) (N : Nat)  (M : wg_M)  (x1 : Int32) (x2 : Int32)  : ∀ (n : Nat) (x3 : Int32) (x4 : Int32) (o : (Int32 × Int32)), lp (fun o => f_X9_loop_l31 N M  x1 x2 o.1 o.2) n (x3, x4) = some o → (∀ (y3 : Int32) (y4 : Int32), o = (y3, y4) → G_X9_loop p l e s m args below meth c E ad S r0 C D0 193 C M [(0, .ref (ad 55)), (1, .int x1), (2, .int x2), (3, .int y3), (4, .int y4)] []) → G_X9_loop p l e s m args below meth c E ad S r0 C D0 31 C M [(0, .ref (ad 55)), (1, .int x1), (2, .int x2), (3, .int x3), (4, .int x4)] [] := by
  intro n
  induction n with
  | zero => exact fun _ _ o h => (lp_zero h).elim
  | succ n ih =>
    intro x3 x4 o h K
    obtain ⟨o1, hb, h2⟩ := lp_some h
    replace hb : f_X9_loop_l31 N M  x1 x2 x3 x4 = some o1 := hb
    clear h
    have Kc : ∀ (y3 : Int32) (y4 : Int32), o1 = Sum.inl (y3, y4) → G_X9_loop p l e s m args below meth c E ad S r0 C D0 31 C M [(0, .ref (ad 55)), (1, .int x1), (2, .int x2), (3, .int y3), (4, .int y4)] [] := fun y3 y4 e1 => by
      subst e1
      exact ih y3 y4 o h2 K
    have Ke : ∀ (y3 : Int32) (y4 : Int32), o1 = Sum.inr ((y3, y4)) → G_X9_loop p l e s m args below meth c E ad S r0 C D0 193 C M [(0, .ref (ad 55)), (1, .int x1), (2, .int x2), (3, .int y3), (4, .int y4)] [] := fun y3 y4 e1 => by
      subst e1
      exact K y3 y4 (sm_inj (α := (Int32 × Int32)) h2).symm
    clear ih K h2
    unfold f_X9_loop_l31 at hb
    have h := hb
    clear hb
    refine wg_iload X 4 dX9_loop_31 rfl ?_
    refine wg_sipush (v := 192) X dX9_loop_33 (by decide) ?_
    refine wg_icmp_ge X 193 dX9_loop_36 (by decide) (fun c9 => ?_) (fun c9 => ?_)
    · have h := if_t c9 h
      exact Ke x3 x4 (sm_inj h).symm
    · have h := if_f c9 h
      refine wg_aload_n X 0 dX9_loop_39 rfl rfl ?_
      refine wg_getR (b := 65) X cl9 (SMi hS 55 9 rfl) 30 (by decide) dX9_loop_40 k_912 rfl (SMr hS 30 65 rfl) ?_
      refine wg_iload X 4 dX9_loop_43 rfl ?_
      obtain ⟨z10, h⟩ := ck_some h
      refine wg_mald X (SMi hS 65 11 rfl) (SMl hS 65 192 rfl) z10 dX9_loop_45 ?_
      refine wg_ldcw (v := 99999999) X dX9_loop_46 k_1173 ?_
      refine wg_icmp_ge X 187 dX9_loop_49 (by decide) (fun c11 => ?_) (fun c11 => ?_)
      · have h := if_t c11 h
        obtain ⟨v12, e13, h⟩ := lt_some h
        refine wg_iinc (lv' := [(4, .int v12), (0, .ref (ad 55)), (1, .int x1), (2, .int x2), (3, .int x3)]) X 4 dX9_loop_187 rfl e13 (by decide) rfl ?_
        refine wg_goto X 31 dX9_loop_190 (by decide) ?_
        refine wg_pick [1, 2, 3, 4, 0] (lv' := [(0, .ref (ad 55)), (1, .int x1), (2, .int x2), (3, .int x3), (4, .int v12)]) rfl ?_
        exact Kc x3 v12 (sm_inj h).symm
      · have h := if_f c11 h
        refine wg_iload X 4 dX9_loop_52 rfl ?_
        refine wg_bipush (v := 32) X dX9_loop_54 (by decide) ?_
        refine wg_irem X dX9_loop_56 (by decide) ?_
        obtain ⟨v14, e15, h⟩ := lt_some h
        refine wg_istore (lv' := [(5, .int v14), (0, .ref (ad 55)), (1, .int x1), (2, .int x2), (3, .int x3), (4, .int x4)]) X dX9_loop_57 e15 (by decide) rfl ?_
        refine wg_iload X 0 dX9_loop_59 rfl ?_
        refine wg_bipush (v := 31) X dX9_loop_61 (by decide) ?_
        refine wg_icmp_ge X 93 dX9_loop_63 (by decide) (fun c16 => ?_) (fun c16 => ?_)
        · have h := if_t c16 h
          refine wg_pick [1, 2, 3, 4, 5, 0] (lv' := [(0, .ref (ad 55)), (1, .int x1), (2, .int x2), (3, .int x3), (4, .int x4), (5, .int v14)]) rfl ?_
          exact J_X9_loop_j93l31 X hr hS r0 D0 C N  M  x1 x2 x3 x4 v14  _ Kc Ke h
        · have h := if_f c16 h
          refine wg_iload X 5 dX9_loop_66 rfl ?_
          refine wg_iconst (v := 1) X dX9_loop_68 (by decide) ?_
          refine wg_iadd X dX9_loop_69 ?_
          refine wg_iload_n X 2 dX9_loop_70 rfl rfl ?_
          refine wg_icmp_ne X 93 dX9_loop_71 (by decide) (fun c51 => ?_) (fun c51 => ?_)
          · have h := if_f c51 h
            refine wg_pick [1, 2, 3, 4, 5, 0] (lv' := [(0, .ref (ad 55)), (1, .int x1), (2, .int x2), (3, .int x3), (4, .int x4), (5, .int v14)]) rfl ?_
            exact J_X9_loop_j93l31 X hr hS r0 D0 C N  M  x1 x2 x3 x4 v14  _ Kc Ke h
          · have h := if_t c51 h
            refine wg_aload_n X 1 dX9_loop_74 rfl rfl ?_
            refine wg_getR (b := 65) X cl9 (SMi hS 55 9 rfl) 30 (by decide) dX9_loop_75 k_912 rfl (SMr hS 30 65 rfl) ?_
            refine wg_iload X 5 dX9_loop_78 rfl ?_
            obtain ⟨z52, h⟩ := ck_some h
            refine wg_mald X (SMi hS 65 11 rfl) (SMl hS 65 192 rfl) z52 dX9_loop_80 ?_
            refine wg_iload_n X 4 dX9_loop_81 rfl rfl ?_
            refine wg_icmp_ge X 93 dX9_loop_82 (by decide) (fun c53 => ?_) (fun c53 => ?_)
            · have h := if_t c53 h
              refine wg_pick [1, 2, 3, 4, 5, 0] (lv' := [(0, .ref (ad 55)), (1, .int x1), (2, .int x2), (3, .int x3), (4, .int x4), (5, .int v14)]) rfl ?_
              exact J_X9_loop_j93l31 X hr hS r0 D0 C N  M  x1 x2 x3 x4 v14  _ Kc Ke h
            · have h := if_f c53 h
              refine wg_aload_n X 1 dX9_loop_85 rfl rfl ?_
              refine wg_getR (b := 65) X cl9 (SMi hS 55 9 rfl) 30 (by decide) dX9_loop_86 k_912 rfl (SMr hS 30 65 rfl) ?_
              refine wg_iload X 5 dX9_loop_89 rfl ?_
              obtain ⟨z54, h⟩ := ck_some h
              refine wg_mald X (SMi hS 65 11 rfl) (SMl hS 65 192 rfl) z54 dX9_loop_91 ?_
              obtain ⟨v55, e56, h⟩ := lt_some h
              refine wg_istore_n (lv' := [(3, .int v55), (5, .int v14), (0, .ref (ad 55)), (1, .int x1), (2, .int x2), (4, .int x4)]) X dX9_loop_92 rfl e56 (by decide) rfl ?_
              refine wg_pick [2, 3, 4, 0, 5, 1] (lv' := [(0, .ref (ad 55)), (1, .int x1), (2, .int x2), (3, .int v55), (4, .int x4), (5, .int v14)]) rfl ?_
              exact J_X9_loop_j93l31 X hr hS r0 D0 C N  M  x1 x2 v55 x4 v14  _ Kc Ke h
set_option maxHeartbeats 4000000 in
set_option maxRecDepth 100000 in
theorem c_X9_loop (l : Launch) (E : wg_Ev) (ad : Nat → Nat) (S : wg_Sh) (hS : wg_SM S) (N : Nat) (C : wg_C) (M : wg_M) (p1 : Int32) (p2 : Int32)  {r0 : Int32} {D0 : wg_M} (h : f_X9_loop N M p1 p2 = some (r0, D0)) : wg_Ci l yX9_loop cX9_loop 7 (some .int) 77 2978 E ad S C M [.ref (ad 55), .int p1, .int p2] r0 C D0 := by
  refine wg_start (own := RX9) (by decide +kernel) rfl (Nat.le_of_ble_eq_true rfl) ?_
  intro p e s m below meth c X hr hnm
  refine wg_lv (lv' := [(0, .ref (ad 55)), (1, .int p1), (2, .int p2)]) rfl ?_
  unfold f_X9_loop at h
  refine wg_iload_n X 1 dX9_loop_0 rfl rfl ?_
  obtain ⟨r2, h1, h⟩ := bd_some h
  refine wg_callSi (As := [.int p1]) (rest := []) X (c_X9_isSpot l E ad S C M p1  h1) T_yX9_isSpot k_1158 dX9_loop_1 rfl rfl (Nat.le_of_ble_eq_true rfl) ⟨Nat.le_of_ble_eq_true rfl, Nat.le_of_ble_eq_true rfl⟩ ⟨Nat.zero_le _, Nat.zero_le _⟩ ?_
  refine wg_if_eq X 14 dX9_loop_4 (by decide) (fun c3 => ?_) (fun c3 => ?_)
  · have h := if_t c3 h
    refine wg_bipush (v := -2) X dX9_loop_14 (by decide) ?_
    exact wg_iret X ⟨(Prod.mk.inj (sm_inj h)).1, rfl, (Prod.mk.inj (sm_inj h)).2⟩ hr dX9_loop_16
  · have h := if_f c3 h
    refine wg_iload_n X 2 dX9_loop_7 rfl rfl ?_
    obtain ⟨r5, h4, h⟩ := bd_some h
    refine wg_callSi (As := [.int p2]) (rest := []) X (c_X9_isSort l E ad S C M p2  h4) T_yX9_isSort k_1058 dX9_loop_8 rfl rfl (Nat.le_of_ble_eq_true rfl) ⟨Nat.le_of_ble_eq_true rfl, Nat.le_of_ble_eq_true rfl⟩ ⟨Nat.zero_le _, Nat.zero_le _⟩ ?_
    refine wg_if_ne X 17 dX9_loop_11 (by decide) (fun c6 => ?_) (fun c6 => ?_)
    · have h := if_f c6 h
      refine wg_aload_n X 0 dX9_loop_17 rfl rfl ?_
      refine wg_iload_n X 1 dX9_loop_18 rfl rfl ?_
      refine wg_iload_n X 2 dX9_loop_19 rfl rfl ?_
      refine wg_iconst (v := 0) X dX9_loop_20 (by decide) ?_
      obtain ⟨M8, h7, h⟩ := bd_some h
      refine wg_callVv (As := [.int p1, .int p2, .int (0 : Int32)]) (rest := []) X (c_X9_spreads l E ad S hS N C M p1 p2 (0 : Int32)  h7) T_yX9_spreads k_1162 cl9 (SMi hS 55 9 rfl) dX9_loop_21 rfl rfl (Nat.le_of_ble_eq_true rfl) ⟨Nat.le_of_ble_eq_true rfl, Nat.le_of_ble_eq_true rfl⟩ ⟨Nat.zero_le _, Nat.zero_le _⟩ ?_
      refine wg_ldcw (v := 99999999) X dX9_loop_24 k_1173 ?_
      refine wg_istore_n (lv' := [(3, .int (99999999 : Int32)), (0, .ref (ad 55)), (1, .int p1), (2, .int p2)]) X dX9_loop_27 rfl rfl (by decide) rfl ?_
      refine wg_iconst (v := 0) X dX9_loop_28 (by decide) ?_
      refine wg_istore (lv' := [(4, .int (0 : Int32)), (3, .int (99999999 : Int32)), (0, .ref (ad 55)), (1, .int p1), (2, .int p2)]) X dX9_loop_29 rfl (by decide) rfl ?_
      obtain ⟨o59, h60, h⟩ := bd2_o h
      refine wg_pick [2, 3, 4, 1, 0] (lv' := [(0, .ref (ad 55)), (1, .int p1), (2, .int p2), (3, .int (99999999 : Int32)), (4, .int (0 : Int32))]) rfl ?_
      refine L_X9_loop_l31 X hr hS r0 D0 C N  M8  p1 p2  N (99999999 : Int32) (0 : Int32) o59 h60 (fun v57 v58 e62 => ?_)
      · subst o59
        replace h := bd2_in h
        refine wg_iload_n X 3 dX9_loop_193 rfl rfl ?_
        refine wg_ldcw (v := 99999999) X dX9_loop_194 k_1173 ?_
        refine wg_icmp_ne X 204 dX9_loop_197 (by decide) (fun c63 => ?_) (fun c63 => ?_)
        · have h := if_f c63 h
          refine wg_iload_n X 3 dX9_loop_204 rfl rfl ?_
          refine wg_sipush (v := 10000) X dX9_loop_205 (by decide) ?_
          refine wg_idiv X dX9_loop_208 (by decide) ?_
          exact wg_iret X ⟨(Prod.mk.inj (sm_inj h)).1, rfl, (Prod.mk.inj (sm_inj h)).2⟩ hr dX9_loop_209
        · have h := if_t c63 h
          refine wg_iconst (v := -1) X dX9_loop_200 (by decide) ?_
          refine wg_goto X 209 dX9_loop_201 (by decide) ?_
          exact wg_iret X ⟨(Prod.mk.inj (sm_inj h)).1, rfl, (Prod.mk.inj (sm_inj h)).2⟩ hr dX9_loop_209
    · have h := if_t c6 h
      refine wg_bipush (v := -2) X dX9_loop_14 (by decide) ?_
      exact wg_iret X ⟨(Prod.mk.inj (sm_inj h)).1, rfl, (Prod.mk.inj (sm_inj h)).2⟩ hr dX9_loop_16
-- WindowsGiveModel.spots(II)I (('c', 55), 'i', 'i')
def f_X9_spots_l29 (N : Nat) (M : wg_M)   (x3 : Int32) (x4 : Int32) : Option ((Int32 × Int32) ⊕ (Int32 × Int32)) :=
  if (192 : Int32) ≤ x4 then (
    some (.inr (x3, x4)))
  else (
    ck (inb x4 192) <|
    if (99999999 : Int32) ≤ (M.1 65 x4.toNatClampNeg) then (
      lt_ (x3 + (0 : Int32)) fun v12 =>
      lt_ (x4 + (1 : Int32)) fun v14 =>
      some (.inl (v12, v14)))
    else (
      lt_ (x3 + (1 : Int32)) fun v16 =>
      lt_ (x4 + (1 : Int32)) fun v18 =>
      some (.inl (v16, v18))))
def f_X9_spots (N : Nat) (M : wg_M) (p1 : Int32) (p2 : Int32) : Option (Int32 × wg_M) :=
  bd (f_X9_isSpot p1) fun r2 =>
  if r2 = 0 then (
    some ((-2 : Int32), M))
  else (
    bd (f_X9_isSort p2) fun r5 =>
    if r5 = 0 then (
      some ((-2 : Int32), M))
    else (
      bd (f_X9_spreads N M p1 p2 (0 : Int32)) fun M8 =>
      bd2 (lp (fun o => f_X9_spots_l29 N M8   o.1 o.2) N ((0 : Int32), (0 : Int32))) fun v20 v21 =>
      some (v20, M8)))
abbrev G_X9_spots (p : Program) (l : Launch) (e : Env) (s : State) (m : MethodId) (args : Array Value) (below : List Frame) (meth : Method) (c : Code) (E : wg_Ev) (ad : Nat → Nat) (S : wg_Sh) (r0 : Int32) (C0 : wg_C) (M0 : wg_M) (pc : Nat) (C : wg_C) (M : wg_M) (lv : List (Nat × Value)) (st : List Value) : Prop := wg_G p l e (wg_Rm 77 2978) s m args below meth c (MQ below (wg_Qi E ad S r0 C0 M0) args s 0 0 (wg_A E)) 5 E ad S 0 0 pc C M lv st
set_option maxHeartbeats 4000000 in
set_option maxRecDepth 100000 in
theorem L_X9_spots_l29 {p : Program} {l : Launch} {e : Env} {s : State} {m : MethodId} {args : Array Value} {below : List Frame} {meth : Method} {c : Code} {E : wg_Ev} {ad : Nat → Nat} {S : wg_Sh} (X : wg_X p s m args meth c cX9_spots 5 RX9 E) (hr : meth.sig.returnType = (some .int)) (hS : wg_SM S) (r0 : Int32) (D0 : wg_M) (C : wg_C) (N : Nat)  (M : wg_M)    : ∀ (n : Nat) (x3 : Int32) (x4 : Int32) (o : (Int32 × Int32)), lp (fun o => f_X9_spots_l29 N M   o.1 o.2) n (x3, x4) = some o → (∀ (y3 : Int32) (y4 : Int32), o = (y3, y4) → G_X9_spots p l e s m args below meth c E ad S r0 C D0 64 C M [(0, .ref (ad 55)), (3, .int y3), (4, .int y4)] []) → G_X9_spots p l e s m args below meth c E ad S r0 C D0 29 C M [(0, .ref (ad 55)), (3, .int x3), (4, .int x4)] [] := by
  intro n
  induction n with
  | zero => exact fun _ _ o h => (lp_zero h).elim
  | succ n ih =>
    intro x3 x4 o h K
    obtain ⟨o1, hb, h2⟩ := lp_some h
    replace hb : f_X9_spots_l29 N M   x3 x4 = some o1 := hb
    clear h
    have Kc : ∀ (y3 : Int32) (y4 : Int32), o1 = Sum.inl (y3, y4) → G_X9_spots p l e s m args below meth c E ad S r0 C D0 29 C M [(0, .ref (ad 55)), (3, .int y3), (4, .int y4)] [] := fun y3 y4 e1 => by
      subst e1
      exact ih y3 y4 o h2 K
    have Ke : ∀ (y3 : Int32) (y4 : Int32), o1 = Sum.inr ((y3, y4)) → G_X9_spots p l e s m args below meth c E ad S r0 C D0 64 C M [(0, .ref (ad 55)), (3, .int y3), (4, .int y4)] [] := fun y3 y4 e1 => by
      subst e1
      exact K y3 y4 (sm_inj (α := (Int32 × Int32)) h2).symm
    clear ih K h2
    unfold f_X9_spots_l29 at hb
    have h := hb
    clear hb
    refine wg_iload X 2 dX9_spots_29 rfl ?_
    refine wg_sipush (v := 192) X dX9_spots_31 (by decide) ?_
    refine wg_icmp_ge X 64 dX9_spots_34 (by decide) (fun c9 => ?_) (fun c9 => ?_)
    · have h := if_t c9 h
      exact Ke x3 x4 (sm_inj h).symm
    · have h := if_f c9 h
      refine wg_iload_n X 1 dX9_spots_37 rfl rfl ?_
      refine wg_aload_n X 0 dX9_spots_38 rfl rfl ?_
      refine wg_getR (b := 65) X cl9 (SMi hS 55 9 rfl) 30 (by decide) dX9_spots_39 k_912 rfl (SMr hS 30 65 rfl) ?_
      refine wg_iload X 2 dX9_spots_42 rfl ?_
      obtain ⟨z10, h⟩ := ck_some h
      refine wg_mald X (SMi hS 65 11 rfl) (SMl hS 65 192 rfl) z10 dX9_spots_44 ?_
      refine wg_ldcw (v := 99999999) X dX9_spots_45 k_1173 ?_
      refine wg_icmp_ge X 55 dX9_spots_48 (by decide) (fun c11 => ?_) (fun c11 => ?_)
      · have h := if_t c11 h
        refine wg_iconst (v := 0) X dX9_spots_55 (by decide) ?_
        refine wg_iadd X dX9_spots_56 ?_
        obtain ⟨v12, e13, h⟩ := lt_some h
        refine wg_istore_n (lv' := [(3, .int v12), (0, .ref (ad 55)), (4, .int x4)]) X dX9_spots_57 rfl e13 (by decide) rfl ?_
        obtain ⟨v14, e15, h⟩ := lt_some h
        refine wg_iinc (lv' := [(4, .int v14), (3, .int v12), (0, .ref (ad 55))]) X 2 dX9_spots_58 rfl e15 (by decide) rfl ?_
        refine wg_goto X 29 dX9_spots_61 (by decide) ?_
        refine wg_pick [2, 1, 0] (lv' := [(0, .ref (ad 55)), (3, .int v12), (4, .int v14)]) rfl ?_
        exact Kc v12 v14 (sm_inj h).symm
      · have h := if_f c11 h
        refine wg_iconst (v := 1) X dX9_spots_51 (by decide) ?_
        refine wg_goto X 56 dX9_spots_52 (by decide) ?_
        refine wg_iadd X dX9_spots_56 ?_
        obtain ⟨v16, e17, h⟩ := lt_some h
        refine wg_istore_n (lv' := [(3, .int v16), (0, .ref (ad 55)), (4, .int x4)]) X dX9_spots_57 rfl e17 (by decide) rfl ?_
        obtain ⟨v18, e19, h⟩ := lt_some h
        refine wg_iinc (lv' := [(4, .int v18), (3, .int v16), (0, .ref (ad 55))]) X 2 dX9_spots_58 rfl e19 (by decide) rfl ?_
        refine wg_goto X 29 dX9_spots_61 (by decide) ?_
        refine wg_pick [2, 1, 0] (lv' := [(0, .ref (ad 55)), (3, .int v16), (4, .int v18)]) rfl ?_
        exact Kc v16 v18 (sm_inj h).symm
set_option maxHeartbeats 4000000 in
set_option maxRecDepth 100000 in
theorem c_X9_spots (l : Launch) (E : wg_Ev) (ad : Nat → Nat) (S : wg_Sh) (hS : wg_SM S) (N : Nat) (C : wg_C) (M : wg_M) (p1 : Int32) (p2 : Int32)  {r0 : Int32} {D0 : wg_M} (h : f_X9_spots N M p1 p2 = some (r0, D0)) : wg_Ci l yX9_spots cX9_spots 5 (some .int) 77 2978 E ad S C M [.ref (ad 55), .int p1, .int p2] r0 C D0 := by
  refine wg_start (own := RX9) (by decide +kernel) rfl (Nat.le_of_ble_eq_true rfl) ?_
  intro p e s m below meth c X hr hnm
  refine wg_lv (lv' := [(0, .ref (ad 55)), (1, .int p1), (2, .int p2)]) rfl ?_
  unfold f_X9_spots at h
  refine wg_iload_n X 1 dX9_spots_0 rfl rfl ?_
  obtain ⟨r2, h1, h⟩ := bd_some h
  refine wg_callSi (As := [.int p1]) (rest := []) X (c_X9_isSpot l E ad S C M p1  h1) T_yX9_isSpot k_1158 dX9_spots_1 rfl rfl (Nat.le_of_ble_eq_true rfl) ⟨Nat.le_of_ble_eq_true rfl, Nat.le_of_ble_eq_true rfl⟩ ⟨Nat.zero_le _, Nat.zero_le _⟩ ?_
  refine wg_if_eq X 14 dX9_spots_4 (by decide) (fun c3 => ?_) (fun c3 => ?_)
  · have h := if_t c3 h
    refine wg_bipush (v := -2) X dX9_spots_14 (by decide) ?_
    exact wg_iret X ⟨(Prod.mk.inj (sm_inj h)).1, rfl, (Prod.mk.inj (sm_inj h)).2⟩ hr dX9_spots_16
  · have h := if_f c3 h
    refine wg_iload_n X 2 dX9_spots_7 rfl rfl ?_
    obtain ⟨r5, h4, h⟩ := bd_some h
    refine wg_callSi (As := [.int p2]) (rest := []) X (c_X9_isSort l E ad S C M p2  h4) T_yX9_isSort k_1058 dX9_spots_8 rfl rfl (Nat.le_of_ble_eq_true rfl) ⟨Nat.le_of_ble_eq_true rfl, Nat.le_of_ble_eq_true rfl⟩ ⟨Nat.zero_le _, Nat.zero_le _⟩ ?_
    refine wg_if_ne X 17 dX9_spots_11 (by decide) (fun c6 => ?_) (fun c6 => ?_)
    · have h := if_f c6 h
      refine wg_aload_n X 0 dX9_spots_17 rfl rfl ?_
      refine wg_iload_n X 1 dX9_spots_18 rfl rfl ?_
      refine wg_iload_n X 2 dX9_spots_19 rfl rfl ?_
      refine wg_iconst (v := 0) X dX9_spots_20 (by decide) ?_
      obtain ⟨M8, h7, h⟩ := bd_some h
      refine wg_callVv (As := [.int p1, .int p2, .int (0 : Int32)]) (rest := []) X (c_X9_spreads l E ad S hS N C M p1 p2 (0 : Int32)  h7) T_yX9_spreads k_1162 cl9 (SMi hS 55 9 rfl) dX9_spots_21 rfl rfl (Nat.le_of_ble_eq_true rfl) ⟨Nat.le_of_ble_eq_true rfl, Nat.le_of_ble_eq_true rfl⟩ ⟨Nat.zero_le _, Nat.zero_le _⟩ ?_
      refine wg_iconst (v := 0) X dX9_spots_24 (by decide) ?_
      refine wg_istore_n (lv' := [(3, .int (0 : Int32)), (0, .ref (ad 55)), (1, .int p1), (2, .int p2)]) X dX9_spots_25 rfl rfl (by decide) rfl ?_
      refine wg_iconst (v := 0) X dX9_spots_26 (by decide) ?_
      refine wg_istore (lv' := [(4, .int (0 : Int32)), (3, .int (0 : Int32)), (0, .ref (ad 55)), (1, .int p1), (2, .int p2)]) X dX9_spots_27 rfl (by decide) rfl ?_
      obtain ⟨o22, h23, h⟩ := bd2_o h
      refine wg_pick [2, 1, 0] (lv' := [(0, .ref (ad 55)), (3, .int (0 : Int32)), (4, .int (0 : Int32))]) rfl ?_
      refine L_X9_spots_l29 X hr hS r0 D0 C N  M8    N (0 : Int32) (0 : Int32) o22 h23 (fun v20 v21 e25 => ?_)
      · subst o22
        replace h := bd2_in h
        refine wg_iload_n X 1 dX9_spots_64 rfl rfl ?_
        exact wg_iret X ⟨(Prod.mk.inj (sm_inj h)).1, rfl, (Prod.mk.inj (sm_inj h)).2⟩ hr dX9_spots_65
    · have h := if_t c6 h
      refine wg_bipush (v := -2) X dX9_spots_14 (by decide) ?_
      exact wg_iret X ⟨(Prod.mk.inj (sm_inj h)).1, rfl, (Prod.mk.inj (sm_inj h)).2⟩ hr dX9_spots_16
-- WindowsGiveModel.comesBut(IIII)Z (('c', 55), 'i', 'i', 'i', 'i')
def f_X9_comesBut (N : Nat) (M : wg_M) (p1 : Int32) (p2 : Int32) (p3 : Int32) (p4 : Int32) : Option (Int32 × wg_M) :=
  lt_ (wg_sM M 55 14 p4) fun M1 =>
  bd (f_X9_spreads N M1 p1 p3 (0 : Int32)) fun M4 =>
  lt_ (wg_sM M4 55 14 (0 : Int32)) fun M5 =>
  ck (inb p2 192) <|
  if (99999999 : Int32) ≤ (M5.1 65 p2.toNatClampNeg) then (
    some ((0 : Int32), M5))
  else (
    some ((1 : Int32), M5))
set_option maxHeartbeats 4000000 in
set_option maxRecDepth 100000 in
theorem c_X9_comesBut (l : Launch) (E : wg_Ev) (ad : Nat → Nat) (S : wg_Sh) (hS : wg_SM S) (N : Nat) (C : wg_C) (M : wg_M) (p1 : Int32) (p2 : Int32) (p3 : Int32) (p4 : Int32)  {r0 : Int32} {D0 : wg_M} (h : f_X9_comesBut N M p1 p2 p3 p4 = some (r0, D0)) : wg_Ci l yX9_comesBut cX9_comesBut 5 (some .boolean) 77 2978 E ad S C M [.ref (ad 55), .int p1, .int p2, .int p3, .int p4] r0 C D0 := by
  refine wg_start (own := RX9) (by decide +kernel) rfl (Nat.le_of_ble_eq_true rfl) ?_
  intro p e s m below meth c X hr hnm
  refine wg_lv (lv' := [(0, .ref (ad 55)), (1, .int p1), (2, .int p2), (3, .int p3), (4, .int p4)]) rfl ?_
  unfold f_X9_comesBut at h
  refine wg_aload_n X 0 dX9_comesBut_0 rfl rfl ?_
  refine wg_iload X 4 dX9_comesBut_1 rfl ?_
  obtain ⟨M1, e2, h⟩ := lt_some h
  refine wg_putMe X cl9 (SMi hS 55 9 rfl) 14 (by decide) dX9_comesBut_3 k_896 rfl rfl rfl rfl e2 ?_
  refine wg_aload_n X 0 dX9_comesBut_6 rfl rfl ?_
  refine wg_iload_n X 1 dX9_comesBut_7 rfl rfl ?_
  refine wg_iload_n X 3 dX9_comesBut_8 rfl rfl ?_
  refine wg_iconst (v := 0) X dX9_comesBut_9 (by decide) ?_
  obtain ⟨M4, h3, h⟩ := bd_some h
  refine wg_callVv (As := [.int p1, .int p3, .int (0 : Int32)]) (rest := []) X (c_X9_spreads l E ad S hS N C M1 p1 p3 (0 : Int32)  h3) T_yX9_spreads k_1162 cl9 (SMi hS 55 9 rfl) dX9_comesBut_10 rfl rfl (Nat.le_of_ble_eq_true rfl) ⟨Nat.le_of_ble_eq_true rfl, Nat.le_of_ble_eq_true rfl⟩ ⟨Nat.zero_le _, Nat.zero_le _⟩ ?_
  refine wg_aload_n X 0 dX9_comesBut_13 rfl rfl ?_
  refine wg_iconst (v := 0) X dX9_comesBut_14 (by decide) ?_
  obtain ⟨M5, e6, h⟩ := lt_some h
  refine wg_putMe X cl9 (SMi hS 55 9 rfl) 14 (by decide) dX9_comesBut_15 k_896 rfl rfl rfl rfl e6 ?_
  refine wg_aload_n X 0 dX9_comesBut_18 rfl rfl ?_
  refine wg_getR (b := 65) X cl9 (SMi hS 55 9 rfl) 30 (by decide) dX9_comesBut_19 k_912 rfl (SMr hS 30 65 rfl) ?_
  refine wg_iload_n X 2 dX9_comesBut_22 rfl rfl ?_
  obtain ⟨z7, h⟩ := ck_some h
  refine wg_mald X (SMi hS 65 11 rfl) (SMl hS 65 192 rfl) z7 dX9_comesBut_23 ?_
  refine wg_ldcw (v := 99999999) X dX9_comesBut_24 k_1173 ?_
  refine wg_icmp_ge X 34 dX9_comesBut_27 (by decide) (fun c8 => ?_) (fun c8 => ?_)
  · have h := if_t c8 h
    refine wg_iconst (v := 0) X dX9_comesBut_34 (by decide) ?_
    exact wg_zret X ⟨(Prod.mk.inj (sm_inj h)).1, rfl, (Prod.mk.inj (sm_inj h)).2⟩ hr (by decide) dX9_comesBut_35
  · have h := if_f c8 h
    refine wg_iconst (v := 1) X dX9_comesBut_30 (by decide) ?_
    refine wg_goto X 35 dX9_comesBut_31 (by decide) ?_
    exact wg_zret X ⟨(Prod.mk.inj (sm_inj h)).1, rfl, (Prod.mk.inj (sm_inj h)).2⟩ hr (by decide) dX9_comesBut_35
-- WindowsGiveModel.brick(IIII)I (('c', 55), 'i', 'i', 'i', 'i')
def f_X9_brick_j128l98 (N : Nat) (M : wg_M)  (x1 : Int32) (x2 : Int32) (x3 : Int32) (x5 : Int32) (x6 : Int32) : Option ((wg_M × Int32 × Int32) ⊕ (wg_M × Int32 × Int32)) :=
  bd2 (f_X9_comesBut N M x1 x2 x3 x6) fun r17 M18 =>
  if r17 = 0 then (
    lt_ (x6 + (1 : Int32)) fun v22 =>
    some (.inl (M18, x6, v22)))
  else (
    lt_ (x6 + (1 : Int32)) fun v20 =>
    some (.inl (M18, x5, v20)))
def f_X9_brick_l98 (N : Nat)  (x1 : Int32) (x2 : Int32) (x3 : Int32) (M : wg_M) (x5 : Int32) (x6 : Int32) : Option ((wg_M × Int32 × Int32) ⊕ (wg_M × Int32 × Int32)) :=
  if ((1 : Int32) <<< ((M.1 55 13) &&& 31)) ≤ x6 then (
    some (.inr (M, x5, x6)))
  else (
    if x5 = (-1 : Int32) then (
      f_X9_brick_j128l98 N M  x1 x2 x3 x5 x6)
    else (
      bd (f_X9_bitsOf N x6) fun r25 =>
      bd (f_X9_bitsOf N x5) fun r27 =>
      if r27 ≤ r25 then (
        lt_ (x6 + (1 : Int32)) fun v29 =>
        some (.inl (M, x5, v29)))
      else (
        f_X9_brick_j128l98 N M  x1 x2 x3 x5 x6)))
def f_X9_brick_j80l50 (N : Nat) (M : wg_M)  (x1 : Int32) (x2 : Int32) (x3 : Int32) (x5 : Int32) (x6 : Int32) (s0 : Int32) (s1 : Int32) : Option ((wg_M × Int32 × Int32) ⊕ (wg_M × Int32 × Int32)) :=
  lt_ (s1 ||| (s0 <<< (x6 &&& 31))) fun v43 =>
  lt_ (x6 + (1 : Int32)) fun v45 =>
  some (.inl (M, v43, v45))
def f_X9_brick_l50 (N : Nat)  (x1 : Int32) (x2 : Int32) (x3 : Int32) (M : wg_M) (x5 : Int32) (x6 : Int32) : Option ((wg_M × Int32 × Int32) ⊕ (wg_M × Int32 × Int32)) :=
  if (M.1 55 13) ≤ x6 then (
    some (.inr (M, x5, x6)))
  else (
    bd2 (f_X9_comesBut N M x1 x2 x3 ((1 : Int32) <<< (x6 &&& 31))) fun r40 M41 =>
    if r40 = 0 then (
      f_X9_brick_j80l50 N M41  x1 x2 x3 x5 x6 (1 : Int32) x5)
    else (
      f_X9_brick_j80l50 N M41  x1 x2 x3 x5 x6 (0 : Int32) x5))
def f_X9_brick (N : Nat) (M : wg_M) (p1 : Int32) (p2 : Int32) (p3 : Int32) (p4 : Int32) : Option (Int32 × wg_M) :=
  bd (f_X9_isSpot p1) fun r2 =>
  if r2 = 0 then (
    some ((-2 : Int32), M))
  else (
    bd (f_X9_isSpot p2) fun r5 =>
    if r5 = 0 then (
      some ((-2 : Int32), M))
    else (
      bd (f_X9_isSort p3) fun r8 =>
      if r8 = 0 then (
        some ((-2 : Int32), M))
      else (
        bd (f_X9_in p4.toInt64 (0 : Int64) (1 : Int64)) fun r11 =>
        if r11 = 0 then (
          some ((-2 : Int32), M))
        else (
          if p4 = (1 : Int32) then (
            bd3 (lp (fun o => f_X9_brick_l50 N  p1 p2 p3 o.1 o.2.1 o.2.2) N (M, (0 : Int32), (0 : Int32))) fun M47 v48 v49 =>
            some (v48, M47))
          else (
            bd3 (lp (fun o => f_X9_brick_l98 N  p1 p2 p3 o.1 o.2.1 o.2.2) N (M, (-1 : Int32), (0 : Int32))) fun M31 v32 v33 =>
            some (v32, M31))))))
abbrev G_X9_brick (p : Program) (l : Launch) (e : Env) (s : State) (m : MethodId) (args : Array Value) (below : List Frame) (meth : Method) (c : Code) (E : wg_Ev) (ad : Nat → Nat) (S : wg_Sh) (r0 : Int32) (C0 : wg_C) (M0 : wg_M) (pc : Nat) (C : wg_C) (M : wg_M) (lv : List (Nat × Value)) (st : List Value) : Prop := wg_G p l e (wg_Rm 78 3002) s m args below meth c (MQ below (wg_Qi E ad S r0 C0 M0) args s 0 0 (wg_A E)) 7 E ad S 0 0 pc C M lv st
set_option maxHeartbeats 4000000 in
set_option maxRecDepth 100000 in
theorem J_X9_brick_j128l98 {p : Program} {l : Launch} {e : Env} {s : State} {m : MethodId} {args : Array Value} {below : List Frame} {meth : Method} {c : Code} {E : wg_Ev} {ad : Nat → Nat} {S : wg_Sh} (X : wg_X p s m args meth c cX9_brick 7 RX9 E) (hr : meth.sig.returnType = (some .int)) (hS : wg_SM S) (r0 : Int32) (D0 : wg_M) (C : wg_C) (N : Nat)  (M : wg_M)  (x1 : Int32) (x2 : Int32) (x3 : Int32) (x5 : Int32) (x6 : Int32)  (y : ((wg_M × Int32 × Int32) ⊕ (wg_M × Int32 × Int32))) (Kc : ∀ (Dy : wg_M) (y5 : Int32) (y6 : Int32), y = Sum.inl (Dy, y5, y6) → G_X9_brick p l e s m args below meth c E ad S r0 C D0 98 C Dy [(0, .ref (ad 55)), (1, .int x1), (2, .int x2), (3, .int x3), (5, .int y5), (6, .int y6)] []) (Ke : ∀ (Dy : wg_M) (y5 : Int32) (y6 : Int32), y = Sum.inr ((Dy, y5, y6)) → G_X9_brick p l e s m args below meth c E ad S r0 C D0 150 C Dy [(0, .ref (ad 55)), (1, .int x1), (2, .int x2), (3, .int x3), (5, .int y5), (6, .int y6)] []) (h : f_X9_brick_j128l98 N M  x1 x2 x3 x5 x6 = some y) : G_X9_brick p l e s m args below meth c E ad S r0 C D0 128 C M [(0, .ref (ad 55)), (1, .int x1), (2, .int x2), (3, .int x3), (5, .int x5), (6, .int x6)] [] := by
  unfold f_X9_brick_j128l98 at h
  refine wg_aload_n X 0 dX9_brick_128 rfl rfl ?_
  refine wg_iload_n X 1 dX9_brick_129 rfl rfl ?_
  refine wg_iload_n X 2 dX9_brick_130 rfl rfl ?_
  refine wg_iload_n X 3 dX9_brick_131 rfl rfl ?_
  refine wg_iload X 5 dX9_brick_132 rfl ?_
  obtain ⟨r17, M18, h16, h⟩ := bd2_some h
  refine wg_callVi (As := [.int x1, .int x2, .int x3, .int x6]) (rest := []) X (c_X9_comesBut l E ad S hS N C M x1 x2 x3 x6  h16) T_yX9_comesBut k_1202 cl9 (SMi hS 55 9 rfl) dX9_brick_134 rfl rfl (Nat.le_of_ble_eq_true rfl) ⟨Nat.le_of_ble_eq_true rfl, Nat.le_of_ble_eq_true rfl⟩ ⟨Nat.zero_le _, Nat.zero_le _⟩ ?_
  refine wg_if_ne X 144 dX9_brick_137 (by decide) (fun c19 => ?_) (fun c19 => ?_)
  · have h := if_f c19 h
    obtain ⟨v20, e21, h⟩ := lt_some h
    refine wg_iinc (lv' := [(6, .int v20), (0, .ref (ad 55)), (1, .int x1), (2, .int x2), (3, .int x3), (5, .int x5)]) X 5 dX9_brick_144 rfl e21 (by decide) rfl ?_
    refine wg_goto X 98 dX9_brick_147 (by decide) ?_
    refine wg_pick [1, 2, 3, 4, 5, 0] (lv' := [(0, .ref (ad 55)), (1, .int x1), (2, .int x2), (3, .int x3), (5, .int x5), (6, .int v20)]) rfl ?_
    exact Kc M18 x5 v20 (sm_inj h).symm
  · have h := if_t c19 h
    refine wg_iload X 5 dX9_brick_140 rfl ?_
    refine wg_istore (lv' := [(5, .int x6), (0, .ref (ad 55)), (1, .int x1), (2, .int x2), (3, .int x3), (6, .int x6)]) X dX9_brick_142 rfl (by decide) rfl ?_
    obtain ⟨v22, e23, h⟩ := lt_some h
    refine wg_iinc (lv' := [(6, .int v22), (5, .int x6), (0, .ref (ad 55)), (1, .int x1), (2, .int x2), (3, .int x3)]) X 5 dX9_brick_144 rfl e23 (by decide) rfl ?_
    refine wg_goto X 98 dX9_brick_147 (by decide) ?_
    refine wg_pick [2, 3, 4, 5, 1, 0] (lv' := [(0, .ref (ad 55)), (1, .int x1), (2, .int x2), (3, .int x3), (5, .int x6), (6, .int v22)]) rfl ?_
    exact Kc M18 x6 v22 (sm_inj h).symm
set_option maxHeartbeats 4000000 in
set_option maxRecDepth 100000 in
theorem L_X9_brick_l98 {p : Program} {l : Launch} {e : Env} {s : State} {m : MethodId} {args : Array Value} {below : List Frame} {meth : Method} {c : Code} {E : wg_Ev} {ad : Nat → Nat} {S : wg_Sh} (X : wg_X p s m args meth c cX9_brick 7 RX9 E) (hr : meth.sig.returnType = (some .int)) (hS : wg_SM S) (r0 : Int32) (D0 : wg_M) (C : wg_C) (N : Nat)   (x1 : Int32) (x2 : Int32) (x3 : Int32)  : ∀ (n : Nat) (M : wg_M) (x5 : Int32) (x6 : Int32) (o : (wg_M × Int32 × Int32)), lp (fun o => f_X9_brick_l98 N  x1 x2 x3 o.1 o.2.1 o.2.2) n (M, x5, x6) = some o → (∀ (Dy : wg_M) (y5 : Int32) (y6 : Int32), o = (Dy, y5, y6) → G_X9_brick p l e s m args below meth c E ad S r0 C D0 150 C Dy [(0, .ref (ad 55)), (1, .int x1), (2, .int x2), (3, .int x3), (5, .int y5), (6, .int y6)] []) → G_X9_brick p l e s m args below meth c E ad S r0 C D0 98 C M [(0, .ref (ad 55)), (1, .int x1), (2, .int x2), (3, .int x3), (5, .int x5), (6, .int x6)] [] := by
  intro n
  induction n with
  | zero => exact fun _ _ _ o h => (lp_zero h).elim
  | succ n ih =>
    intro M x5 x6 o h K
    obtain ⟨o1, hb, h2⟩ := lp_some h
    replace hb : f_X9_brick_l98 N  x1 x2 x3 M x5 x6 = some o1 := hb
    clear h
    have Kc : ∀ (Dy : wg_M) (y5 : Int32) (y6 : Int32), o1 = Sum.inl (Dy, y5, y6) → G_X9_brick p l e s m args below meth c E ad S r0 C D0 98 C Dy [(0, .ref (ad 55)), (1, .int x1), (2, .int x2), (3, .int x3), (5, .int y5), (6, .int y6)] [] := fun Dy y5 y6 e1 => by
      subst e1
      exact ih Dy y5 y6 o h2 K
    have Ke : ∀ (Dy : wg_M) (y5 : Int32) (y6 : Int32), o1 = Sum.inr ((Dy, y5, y6)) → G_X9_brick p l e s m args below meth c E ad S r0 C D0 150 C Dy [(0, .ref (ad 55)), (1, .int x1), (2, .int x2), (3, .int x3), (5, .int y5), (6, .int y6)] [] := fun Dy y5 y6 e1 => by
      subst e1
      exact K Dy y5 y6 (sm_inj (α := (wg_M × Int32 × Int32)) h2).symm
    clear ih K h2
    unfold f_X9_brick_l98 at hb
    have h := hb
    clear hb
    refine wg_iload X 5 dX9_brick_98 rfl ?_
    refine wg_iconst (v := 1) X dX9_brick_100 (by decide) ?_
    refine wg_aload_n X 0 dX9_brick_101 rfl rfl ?_
    refine wg_getM X cl9 (SMi hS 55 9 rfl) 13 (by decide) dX9_brick_102 k_895 rfl ?_
    refine wg_ishl X dX9_brick_105 ?_
    refine wg_icmp_ge X 150 dX9_brick_106 (by decide) (fun c14 => ?_) (fun c14 => ?_)
    · have h := if_t c14 h
      exact Ke M x5 x6 (sm_inj h).symm
    · have h := if_f c14 h
      refine wg_iload X 4 dX9_brick_109 rfl ?_
      refine wg_iconst (v := -1) X dX9_brick_111 (by decide) ?_
      refine wg_icmp_eq X 128 dX9_brick_112 (by decide) (fun c15 => ?_) (fun c15 => ?_)
      · have h := if_t c15 h
        exact J_X9_brick_j128l98 X hr hS r0 D0 C N  M  x1 x2 x3 x5 x6  _ Kc Ke h
      · have h := if_f c15 h
        refine wg_iload X 5 dX9_brick_115 rfl ?_
        obtain ⟨r25, h24, h⟩ := bd_some h
        refine wg_callSi (As := [.int x6]) (rest := []) X (c_X9_bitsOf l E ad S N C M x6  h24) T_yX9_bitsOf k_1206 dX9_brick_117 rfl rfl (Nat.le_of_ble_eq_true rfl) ⟨Nat.le_of_ble_eq_true rfl, Nat.le_of_ble_eq_true rfl⟩ ⟨Nat.zero_le _, Nat.zero_le _⟩ ?_
        refine wg_iload X 4 dX9_brick_120 rfl ?_
        obtain ⟨r27, h26, h⟩ := bd_some h
        refine wg_callSi (As := [.int x5]) (rest := [.int r25]) X (c_X9_bitsOf l E ad S N C M x5  h26) T_yX9_bitsOf k_1206 dX9_brick_122 rfl rfl (Nat.le_of_ble_eq_true rfl) ⟨Nat.le_of_ble_eq_true rfl, Nat.le_of_ble_eq_true rfl⟩ ⟨Nat.zero_le _, Nat.zero_le _⟩ ?_
        refine wg_icmp_ge X 144 dX9_brick_125 (by decide) (fun c28 => ?_) (fun c28 => ?_)
        · have h := if_t c28 h
          obtain ⟨v29, e30, h⟩ := lt_some h
          refine wg_iinc (lv' := [(6, .int v29), (0, .ref (ad 55)), (1, .int x1), (2, .int x2), (3, .int x3), (5, .int x5)]) X 5 dX9_brick_144 rfl e30 (by decide) rfl ?_
          refine wg_goto X 98 dX9_brick_147 (by decide) ?_
          refine wg_pick [1, 2, 3, 4, 5, 0] (lv' := [(0, .ref (ad 55)), (1, .int x1), (2, .int x2), (3, .int x3), (5, .int x5), (6, .int v29)]) rfl ?_
          exact Kc M x5 v29 (sm_inj h).symm
        · have h := if_f c28 h
          exact J_X9_brick_j128l98 X hr hS r0 D0 C N  M  x1 x2 x3 x5 x6  _ Kc Ke h
set_option maxHeartbeats 4000000 in
set_option maxRecDepth 100000 in
theorem J_X9_brick_j80l50 {p : Program} {l : Launch} {e : Env} {s : State} {m : MethodId} {args : Array Value} {below : List Frame} {meth : Method} {c : Code} {E : wg_Ev} {ad : Nat → Nat} {S : wg_Sh} (X : wg_X p s m args meth c cX9_brick 7 RX9 E) (hr : meth.sig.returnType = (some .int)) (hS : wg_SM S) (r0 : Int32) (D0 : wg_M) (C : wg_C) (N : Nat)  (M : wg_M)  (x1 : Int32) (x2 : Int32) (x3 : Int32) (x5 : Int32) (x6 : Int32) (s0 : Int32) (s1 : Int32)  (y : ((wg_M × Int32 × Int32) ⊕ (wg_M × Int32 × Int32))) (Kc : ∀ (Dy : wg_M) (y5 : Int32) (y6 : Int32), y = Sum.inl (Dy, y5, y6) → G_X9_brick p l e s m args below meth c E ad S r0 C D0 50 C Dy [(0, .ref (ad 55)), (1, .int x1), (2, .int x2), (3, .int x3), (5, .int y5), (6, .int y6)] []) (Ke : ∀ (Dy : wg_M) (y5 : Int32) (y6 : Int32), y = Sum.inr ((Dy, y5, y6)) → G_X9_brick p l e s m args below meth c E ad S r0 C D0 92 C Dy [(0, .ref (ad 55)), (1, .int x1), (2, .int x2), (3, .int x3), (5, .int y5), (6, .int y6)] []) (h : f_X9_brick_j80l50 N M  x1 x2 x3 x5 x6 s0 s1 = some y) : G_X9_brick p l e s m args below meth c E ad S r0 C D0 80 C M [(0, .ref (ad 55)), (1, .int x1), (2, .int x2), (3, .int x3), (5, .int x5), (6, .int x6)] [.int s0, .int s1] := by
  unfold f_X9_brick_j80l50 at h
  refine wg_iload X 5 dX9_brick_80 rfl ?_
  refine wg_ishl X dX9_brick_82 ?_
  refine wg_ior X dX9_brick_83 ?_
  obtain ⟨v43, e44, h⟩ := lt_some h
  refine wg_istore (lv' := [(5, .int v43), (0, .ref (ad 55)), (1, .int x1), (2, .int x2), (3, .int x3), (6, .int x6)]) X dX9_brick_84 e44 (by decide) rfl ?_
  obtain ⟨v45, e46, h⟩ := lt_some h
  refine wg_iinc (lv' := [(6, .int v45), (5, .int v43), (0, .ref (ad 55)), (1, .int x1), (2, .int x2), (3, .int x3)]) X 5 dX9_brick_86 rfl e46 (by decide) rfl ?_
  refine wg_goto X 50 dX9_brick_89 (by decide) ?_
  refine wg_pick [2, 3, 4, 5, 1, 0] (lv' := [(0, .ref (ad 55)), (1, .int x1), (2, .int x2), (3, .int x3), (5, .int v43), (6, .int v45)]) rfl ?_
  exact Kc M v43 v45 (sm_inj h).symm
set_option maxHeartbeats 4000000 in
set_option maxRecDepth 100000 in
theorem L_X9_brick_l50 {p : Program} {l : Launch} {e : Env} {s : State} {m : MethodId} {args : Array Value} {below : List Frame} {meth : Method} {c : Code} {E : wg_Ev} {ad : Nat → Nat} {S : wg_Sh} (X : wg_X p s m args meth c cX9_brick 7 RX9 E) (hr : meth.sig.returnType = (some .int)) (hS : wg_SM S) (r0 : Int32) (D0 : wg_M) (C : wg_C) (N : Nat)   (x1 : Int32) (x2 : Int32) (x3 : Int32)  : ∀ (n : Nat) (M : wg_M) (x5 : Int32) (x6 : Int32) (o : (wg_M × Int32 × Int32)), lp (fun o => f_X9_brick_l50 N  x1 x2 x3 o.1 o.2.1 o.2.2) n (M, x5, x6) = some o → (∀ (Dy : wg_M) (y5 : Int32) (y6 : Int32), o = (Dy, y5, y6) → G_X9_brick p l e s m args below meth c E ad S r0 C D0 92 C Dy [(0, .ref (ad 55)), (1, .int x1), (2, .int x2), (3, .int x3), (5, .int y5), (6, .int y6)] []) → G_X9_brick p l e s m args below meth c E ad S r0 C D0 50 C M [(0, .ref (ad 55)), (1, .int x1), (2, .int x2), (3, .int x3), (5, .int x5), (6, .int x6)] [] := by
  intro n
  induction n with
  | zero => exact fun _ _ _ o h => (lp_zero h).elim
  | succ n ih =>
    intro M x5 x6 o h K
    obtain ⟨o1, hb, h2⟩ := lp_some h
    replace hb : f_X9_brick_l50 N  x1 x2 x3 M x5 x6 = some o1 := hb
    clear h
    have Kc : ∀ (Dy : wg_M) (y5 : Int32) (y6 : Int32), o1 = Sum.inl (Dy, y5, y6) → G_X9_brick p l e s m args below meth c E ad S r0 C D0 50 C Dy [(0, .ref (ad 55)), (1, .int x1), (2, .int x2), (3, .int x3), (5, .int y5), (6, .int y6)] [] := fun Dy y5 y6 e1 => by
      subst e1
      exact ih Dy y5 y6 o h2 K
    have Ke : ∀ (Dy : wg_M) (y5 : Int32) (y6 : Int32), o1 = Sum.inr ((Dy, y5, y6)) → G_X9_brick p l e s m args below meth c E ad S r0 C D0 92 C Dy [(0, .ref (ad 55)), (1, .int x1), (2, .int x2), (3, .int x3), (5, .int y5), (6, .int y6)] [] := fun Dy y5 y6 e1 => by
      subst e1
      exact K Dy y5 y6 (sm_inj (α := (wg_M × Int32 × Int32)) h2).symm
    clear ih K h2
    unfold f_X9_brick_l50 at hb
    have h := hb
    clear hb
    refine wg_iload X 5 dX9_brick_50 rfl ?_
    refine wg_aload_n X 0 dX9_brick_52 rfl rfl ?_
    refine wg_getM X cl9 (SMi hS 55 9 rfl) 13 (by decide) dX9_brick_53 k_895 rfl ?_
    refine wg_icmp_ge X 92 dX9_brick_56 (by decide) (fun c38 => ?_) (fun c38 => ?_)
    · have h := if_t c38 h
      exact Ke M x5 x6 (sm_inj h).symm
    · have h := if_f c38 h
      refine wg_iload X 4 dX9_brick_59 rfl ?_
      refine wg_aload_n X 0 dX9_brick_61 rfl rfl ?_
      refine wg_iload_n X 1 dX9_brick_62 rfl rfl ?_
      refine wg_iload_n X 2 dX9_brick_63 rfl rfl ?_
      refine wg_iload_n X 3 dX9_brick_64 rfl rfl ?_
      refine wg_iconst (v := 1) X dX9_brick_65 (by decide) ?_
      refine wg_iload X 5 dX9_brick_66 rfl ?_
      refine wg_ishl X dX9_brick_68 ?_
      obtain ⟨r40, M41, h39, h⟩ := bd2_some h
      refine wg_callVi (As := [.int x1, .int x2, .int x3, .int ((1 : Int32) <<< (x6 &&& 31))]) (rest := [.int x5]) X (c_X9_comesBut l E ad S hS N C M x1 x2 x3 ((1 : Int32) <<< (x6 &&& 31))  h39) T_yX9_comesBut k_1202 cl9 (SMi hS 55 9 rfl) dX9_brick_69 rfl rfl (Nat.le_of_ble_eq_true rfl) ⟨Nat.le_of_ble_eq_true rfl, Nat.le_of_ble_eq_true rfl⟩ ⟨Nat.zero_le _, Nat.zero_le _⟩ ?_
      refine wg_if_eq X 79 dX9_brick_72 (by decide) (fun c42 => ?_) (fun c42 => ?_)
      · have h := if_t c42 h
        refine wg_iconst (v := 1) X dX9_brick_79 (by decide) ?_
        exact J_X9_brick_j80l50 X hr hS r0 D0 C N  M41  x1 x2 x3 x5 x6 (1 : Int32) x5  _ Kc Ke h
      · have h := if_f c42 h
        refine wg_iconst (v := 0) X dX9_brick_75 (by decide) ?_
        refine wg_goto X 80 dX9_brick_76 (by decide) ?_
        exact J_X9_brick_j80l50 X hr hS r0 D0 C N  M41  x1 x2 x3 x5 x6 (0 : Int32) x5  _ Kc Ke h
set_option maxHeartbeats 4000000 in
set_option maxRecDepth 100000 in
theorem c_X9_brick (l : Launch) (E : wg_Ev) (ad : Nat → Nat) (S : wg_Sh) (hS : wg_SM S) (N : Nat) (C : wg_C) (M : wg_M) (p1 : Int32) (p2 : Int32) (p3 : Int32) (p4 : Int32)  {r0 : Int32} {D0 : wg_M} (h : f_X9_brick N M p1 p2 p3 p4 = some (r0, D0)) : wg_Ci l yX9_brick cX9_brick 7 (some .int) 78 3002 E ad S C M [.ref (ad 55), .int p1, .int p2, .int p3, .int p4] r0 C D0 := by
  refine wg_start (own := RX9) (by decide +kernel) rfl (Nat.le_of_ble_eq_true rfl) ?_
  intro p e s m below meth c X hr hnm
  refine wg_lv (lv' := [(0, .ref (ad 55)), (1, .int p1), (2, .int p2), (3, .int p3), (4, .int p4)]) rfl ?_
  unfold f_X9_brick at h
  refine wg_iload_n X 1 dX9_brick_0 rfl rfl ?_
  obtain ⟨r2, h1, h⟩ := bd_some h
  refine wg_callSi (As := [.int p1]) (rest := []) X (c_X9_isSpot l E ad S C M p1  h1) T_yX9_isSpot k_1158 dX9_brick_1 rfl rfl (Nat.le_of_ble_eq_true rfl) ⟨Nat.le_of_ble_eq_true rfl, Nat.le_of_ble_eq_true rfl⟩ ⟨Nat.zero_le _, Nat.zero_le _⟩ ?_
  refine wg_if_eq X 32 dX9_brick_4 (by decide) (fun c3 => ?_) (fun c3 => ?_)
  · have h := if_t c3 h
    refine wg_bipush (v := -2) X dX9_brick_32 (by decide) ?_
    exact wg_iret X ⟨(Prod.mk.inj (sm_inj h)).1, rfl, (Prod.mk.inj (sm_inj h)).2⟩ hr dX9_brick_34
  · have h := if_f c3 h
    refine wg_iload_n X 2 dX9_brick_7 rfl rfl ?_
    obtain ⟨r5, h4, h⟩ := bd_some h
    refine wg_callSi (As := [.int p2]) (rest := []) X (c_X9_isSpot l E ad S C M p2  h4) T_yX9_isSpot k_1158 dX9_brick_8 rfl rfl (Nat.le_of_ble_eq_true rfl) ⟨Nat.le_of_ble_eq_true rfl, Nat.le_of_ble_eq_true rfl⟩ ⟨Nat.zero_le _, Nat.zero_le _⟩ ?_
    refine wg_if_eq X 32 dX9_brick_11 (by decide) (fun c6 => ?_) (fun c6 => ?_)
    · have h := if_t c6 h
      refine wg_bipush (v := -2) X dX9_brick_32 (by decide) ?_
      exact wg_iret X ⟨(Prod.mk.inj (sm_inj h)).1, rfl, (Prod.mk.inj (sm_inj h)).2⟩ hr dX9_brick_34
    · have h := if_f c6 h
      refine wg_iload_n X 3 dX9_brick_14 rfl rfl ?_
      obtain ⟨r8, h7, h⟩ := bd_some h
      refine wg_callSi (As := [.int p3]) (rest := []) X (c_X9_isSort l E ad S C M p3  h7) T_yX9_isSort k_1058 dX9_brick_15 rfl rfl (Nat.le_of_ble_eq_true rfl) ⟨Nat.le_of_ble_eq_true rfl, Nat.le_of_ble_eq_true rfl⟩ ⟨Nat.zero_le _, Nat.zero_le _⟩ ?_
      refine wg_if_eq X 32 dX9_brick_18 (by decide) (fun c9 => ?_) (fun c9 => ?_)
      · have h := if_t c9 h
        refine wg_bipush (v := -2) X dX9_brick_32 (by decide) ?_
        exact wg_iret X ⟨(Prod.mk.inj (sm_inj h)).1, rfl, (Prod.mk.inj (sm_inj h)).2⟩ hr dX9_brick_34
      · have h := if_f c9 h
        refine wg_iload X 4 dX9_brick_21 rfl ?_
        refine wg_i2l X dX9_brick_23 ?_
        refine wg_lconst (v := 0) X dX9_brick_24 (by decide) ?_
        refine wg_lconst (v := 1) X dX9_brick_25 (by decide) ?_
        obtain ⟨r11, h10, h⟩ := bd_some h
        refine wg_callSi (As := [.long (p4.toInt64), .long (0 : Int64), .long (1 : Int64)]) (rest := []) X (c_X9_in l E ad S C M p4.toInt64 (0 : Int64) (1 : Int64)  h10) T_yX9_in k_1021 dX9_brick_26 rfl rfl (Nat.le_of_ble_eq_true rfl) ⟨Nat.le_of_ble_eq_true rfl, Nat.le_of_ble_eq_true rfl⟩ ⟨Nat.zero_le _, Nat.zero_le _⟩ ?_
        refine wg_if_ne X 35 dX9_brick_29 (by decide) (fun c12 => ?_) (fun c12 => ?_)
        · have h := if_f c12 h
          refine wg_iconst (v := -1) X dX9_brick_35 (by decide) ?_
          refine wg_istore (lv' := [(5, .int (-1 : Int32)), (0, .ref (ad 55)), (1, .int p1), (2, .int p2), (3, .int p3), (4, .int p4)]) X dX9_brick_36 rfl (by decide) rfl ?_
          refine wg_iload X 5 dX9_brick_38 rfl ?_
          refine wg_iconst (v := 1) X dX9_brick_40 (by decide) ?_
          refine wg_icmp_ne X 95 dX9_brick_41 (by decide) (fun c13 => ?_) (fun c13 => ?_)
          · have h := if_f c13 h
            refine wg_iconst (v := 0) X dX9_brick_95 (by decide) ?_
            refine wg_istore (lv' := [(6, .int (0 : Int32)), (5, .int (-1 : Int32)), (0, .ref (ad 55)), (1, .int p1), (2, .int p2), (3, .int p3), (4, .int p4)]) X dX9_brick_96 rfl (by decide) rfl ?_
            obtain ⟨o34, h35, h⟩ := bd3_o h
            refine wg_pick [2, 3, 4, 5, 1, 0] (lv' := [(0, .ref (ad 55)), (1, .int p1), (2, .int p2), (3, .int p3), (5, .int (-1 : Int32)), (6, .int (0 : Int32))]) rfl ?_
            refine L_X9_brick_l98 X hr hS r0 D0 C N   p1 p2 p3  N M (-1 : Int32) (0 : Int32) o34 h35 (fun M31 v32 v33 e37 => ?_)
            · subst o34
              replace h := bd3_in h
              refine wg_iload X 4 dX9_brick_150 rfl ?_
              exact wg_iret X ⟨(Prod.mk.inj (sm_inj h)).1, rfl, (Prod.mk.inj (sm_inj h)).2⟩ hr dX9_brick_152
          · have h := if_t c13 h
            refine wg_iconst (v := 0) X dX9_brick_44 (by decide) ?_
            refine wg_istore (lv' := [(5, .int (0 : Int32)), (0, .ref (ad 55)), (1, .int p1), (2, .int p2), (3, .int p3), (4, .int p4)]) X dX9_brick_45 rfl (by decide) rfl ?_
            refine wg_iconst (v := 0) X dX9_brick_47 (by decide) ?_
            refine wg_istore (lv' := [(6, .int (0 : Int32)), (5, .int (0 : Int32)), (0, .ref (ad 55)), (1, .int p1), (2, .int p2), (3, .int p3), (4, .int p4)]) X dX9_brick_48 rfl (by decide) rfl ?_
            obtain ⟨o50, h51, h⟩ := bd3_o h
            refine wg_pick [2, 3, 4, 5, 1, 0] (lv' := [(0, .ref (ad 55)), (1, .int p1), (2, .int p2), (3, .int p3), (5, .int (0 : Int32)), (6, .int (0 : Int32))]) rfl ?_
            refine L_X9_brick_l50 X hr hS r0 D0 C N   p1 p2 p3  N M (0 : Int32) (0 : Int32) o50 h51 (fun M47 v48 v49 e53 => ?_)
            · subst o50
              replace h := bd3_in h
              refine wg_iload X 4 dX9_brick_92 rfl ?_
              exact wg_iret X ⟨(Prod.mk.inj (sm_inj h)).1, rfl, (Prod.mk.inj (sm_inj h)).2⟩ hr dX9_brick_94
        · have h := if_t c12 h
          refine wg_bipush (v := -2) X dX9_brick_32 (by decide) ?_
          exact wg_iret X ⟨(Prod.mk.inj (sm_inj h)).1, rfl, (Prod.mk.inj (sm_inj h)).2⟩ hr dX9_brick_34
-- WindowsGiveModel.shows(II)I (('c', 55), 'i', 'i')
def f_X9_shows (M : wg_M) (p1 : Int32) (p2 : Int32) : Option Int32 :=
  bd (f_X9_isDay p2) fun r2 =>
  if r2 = 0 then (
    some (-1 : Int32))
  else (
    bd (f_X9_passes M p1 p2 (0 : Int32)) fun r5 =>
    if r5 = 0 then (
      some (-1 : Int32))
    else (
      bd (f_X9_on M p1 p2) fun r8 =>
      ck (inb r8 32) <|
      some (M.1 59 r8.toNatClampNeg)))
set_option maxHeartbeats 4000000 in
set_option maxRecDepth 100000 in
theorem c_X9_shows (l : Launch) (E : wg_Ev) (ad : Nat → Nat) (S : wg_Sh) (hS : wg_SM S) (C : wg_C) (M : wg_M) (p1 : Int32) (p2 : Int32)  {r0 : Int32} (h : f_X9_shows M p1 p2 = some r0) : wg_Ci l yX9_shows cX9_shows 3 (some .int) 3 69 E ad S C M [.ref (ad 55), .int p1, .int p2] r0 C M := by
  refine wg_start (own := RX9) (by decide +kernel) rfl (Nat.le_of_ble_eq_true rfl) ?_
  intro p e s m below meth c X hr hnm
  refine wg_lv (lv' := [(0, .ref (ad 55)), (1, .int p1), (2, .int p2)]) rfl ?_
  unfold f_X9_shows at h
  refine wg_iload_n X 2 dX9_shows_0 rfl rfl ?_
  obtain ⟨r2, h1, h⟩ := bd_some h
  refine wg_callSi (As := [.int p2]) (rest := []) X (c_X9_isDay l E ad S C M p2  h1) T_yX9_isDay k_1024 dX9_shows_1 rfl rfl (Nat.le_of_ble_eq_true rfl) ⟨Nat.le_of_ble_eq_true rfl, Nat.le_of_ble_eq_true rfl⟩ ⟨Nat.zero_le _, Nat.zero_le _⟩ ?_
  refine wg_if_eq X 31 dX9_shows_4 (by decide) (fun c3 => ?_) (fun c3 => ?_)
  · have h := if_t c3 h
    refine wg_iconst (v := -1) X dX9_shows_31 (by decide) ?_
    exact wg_iret X ⟨(sm_inj h), rfl, rfl⟩ hr dX9_shows_32
  · have h := if_f c3 h
    refine wg_aload_n X 0 dX9_shows_7 rfl rfl ?_
    refine wg_iload_n X 1 dX9_shows_8 rfl rfl ?_
    refine wg_iload_n X 2 dX9_shows_9 rfl rfl ?_
    refine wg_iconst (v := 0) X dX9_shows_10 (by decide) ?_
    obtain ⟨r5, h4, h⟩ := bd_some h
    refine wg_callVi (As := [.int p1, .int p2, .int (0 : Int32)]) (rest := []) X (c_X9_passes l E ad S hS C M p1 p2 (0 : Int32)  h4) T_yX9_passes k_1066 cl9 (SMi hS 55 9 rfl) dX9_shows_11 rfl rfl (Nat.le_of_ble_eq_true rfl) ⟨Nat.le_of_ble_eq_true rfl, Nat.le_of_ble_eq_true rfl⟩ ⟨Nat.zero_le _, Nat.zero_le _⟩ ?_
    refine wg_if_eq X 31 dX9_shows_14 (by decide) (fun c6 => ?_) (fun c6 => ?_)
    · have h := if_t c6 h
      refine wg_iconst (v := -1) X dX9_shows_31 (by decide) ?_
      exact wg_iret X ⟨(sm_inj h), rfl, rfl⟩ hr dX9_shows_32
    · have h := if_f c6 h
      refine wg_aload_n X 0 dX9_shows_17 rfl rfl ?_
      refine wg_getR (b := 59) X cl9 (SMi hS 55 9 rfl) 7 (by decide) dX9_shows_18 k_889 rfl (SMr hS 7 59 rfl) ?_
      refine wg_aload_n X 0 dX9_shows_21 rfl rfl ?_
      refine wg_iload_n X 1 dX9_shows_22 rfl rfl ?_
      refine wg_iload_n X 2 dX9_shows_23 rfl rfl ?_
      obtain ⟨r8, h7, h⟩ := bd_some h
      refine wg_callVi (As := [.int p1, .int p2]) (rest := [.ref (ad 59)]) X (c_X9_on l E ad S hS C M p1 p2  h7) T_yX9_on k_1062 cl9 (SMi hS 55 9 rfl) dX9_shows_24 rfl rfl (Nat.le_of_ble_eq_true rfl) ⟨Nat.le_of_ble_eq_true rfl, Nat.le_of_ble_eq_true rfl⟩ ⟨Nat.zero_le _, Nat.zero_le _⟩ ?_
      obtain ⟨z9, h⟩ := ck_some h
      refine wg_mald X (SMi hS 59 11 rfl) (SMl hS 59 32 rfl) z9 dX9_shows_27 ?_
      refine wg_goto X 32 dX9_shows_28 (by decide) ?_
      exact wg_iret X ⟨(sm_inj h), rfl, rfl⟩ hr dX9_shows_32
-- WindowsGiveModel.wrongAt(III)I (('c', 55), 'i', 'i', 'i')
def f_X9_wrongAt_l3 (N : Nat) (M : wg_M)  (x1 : Int32) (x2 : Int32) (x3 : Int32) (x4 : Int32) : Option ((Int32) ⊕ ((Int32) ⊕ Int32)) :=
  ck (inb x1 4) <|
  if (M.1 73 x1.toNatClampNeg) ≤ x4 then (
    some (.inr (.inl x4)))
  else (
    bd (f_X9_shows M x2 (x3 + x4)) fun r4 =>
    ck (inb (((40 : Int32) * x1) + x4) 160) <|
    if r4 = (M.1 74 (((40 : Int32) * x1) + x4).toNatClampNeg) then (
      lt_ (x4 + (1 : Int32)) fun v7 =>
      some (.inl v7))
    else (
      some (.inr (.inr x4))))
def f_X9_wrongAt (N : Nat) (M : wg_M) (p1 : Int32) (p2 : Int32) (p3 : Int32) : Option Int32 :=
  bs1 (lp (fun o => f_X9_wrongAt_l3 N M  p1 p2 p3 o) N (0 : Int32)) (fun v9 =>
    some (-1 : Int32))
    (fun q12 => some q12)
abbrev G_X9_wrongAt (p : Program) (l : Launch) (e : Env) (s : State) (m : MethodId) (args : Array Value) (below : List Frame) (meth : Method) (c : Code) (E : wg_Ev) (ad : Nat → Nat) (S : wg_Sh) (r0 : Int32) (C0 : wg_C) (M0 : wg_M) (pc : Nat) (C : wg_C) (M : wg_M) (lv : List (Nat × Value)) (st : List Value) : Prop := wg_G p l e (wg_Rm 4 91) s m args below meth c (MQ below (wg_Qi E ad S r0 C0 M0) args s 0 0 (wg_A E)) 5 E ad S 0 0 pc C M lv st
set_option maxHeartbeats 4000000 in
set_option maxRecDepth 100000 in
theorem L_X9_wrongAt_l3 {p : Program} {l : Launch} {e : Env} {s : State} {m : MethodId} {args : Array Value} {below : List Frame} {meth : Method} {c : Code} {E : wg_Ev} {ad : Nat → Nat} {S : wg_Sh} (X : wg_X p s m args meth c cX9_wrongAt 5 RX9 E) (hr : meth.sig.returnType = (some .int)) (hS : wg_SM S) (r0 : Int32) (C : wg_C) (N : Nat)  (M : wg_M)  (x1 : Int32) (x2 : Int32) (x3 : Int32)  : ∀ (n : Nat) (x4 : Int32) (o : ((Int32) ⊕ Int32)), lp (fun o => f_X9_wrongAt_l3 N M  x1 x2 x3 o) n x4 = some o → (∀ (y4 : Int32), o = Sum.inl y4 → G_X9_wrongAt p l e s m args below meth c E ad S r0 C M 47 C M [(0, .ref (ad 55)), (1, .int x1), (2, .int x2), (3, .int x3), (4, .int y4)] []) → (∀ q : Int32, o = Sum.inr q → q = r0) → G_X9_wrongAt p l e s m args below meth c E ad S r0 C M 3 C M [(0, .ref (ad 55)), (1, .int x1), (2, .int x2), (3, .int x3), (4, .int x4)] [] := by
  intro n
  induction n with
  | zero => exact fun _ o h => (lp_zero h).elim
  | succ n ih =>
    intro x4 o h K KR
    obtain ⟨o1, hb, h2⟩ := lp_some h
    replace hb : f_X9_wrongAt_l3 N M  x1 x2 x3 x4 = some o1 := hb
    clear h
    have Kc : ∀ (y4 : Int32), o1 = Sum.inl y4 → G_X9_wrongAt p l e s m args below meth c E ad S r0 C M 3 C M [(0, .ref (ad 55)), (1, .int x1), (2, .int x2), (3, .int x3), (4, .int y4)] [] := fun y4 e1 => by
      subst e1
      exact ih y4 o h2 K KR
    have Ke : ∀ (y4 : Int32), o1 = Sum.inr (Sum.inl y4) → G_X9_wrongAt p l e s m args below meth c E ad S r0 C M 47 C M [(0, .ref (ad 55)), (1, .int x1), (2, .int x2), (3, .int x3), (4, .int y4)] [] := fun y4 e1 => by
      subst e1
      exact K y4 (sm_inj (α := ((Int32) ⊕ Int32)) h2).symm
    have Kr : ∀ q : Int32, o1 = Sum.inr (Sum.inr q) → q = r0 := fun q e1 => by
      subst e1
      exact KR q (sm_inj (α := ((Int32) ⊕ Int32)) h2).symm
    clear ih K h2 KR
    unfold f_X9_wrongAt_l3 at hb
    have h := hb
    clear hb
    refine wg_iload X 4 dX9_wrongAt_3 rfl ?_
    refine wg_aload_n X 0 dX9_wrongAt_5 rfl rfl ?_
    refine wg_getR (b := 73) X cl9 (SMi hS 55 9 rfl) 42 (by decide) dX9_wrongAt_6 k_924 rfl (SMr hS 42 73 rfl) ?_
    refine wg_iload_n X 1 dX9_wrongAt_9 rfl rfl ?_
    obtain ⟨z1, h⟩ := ck_some h
    refine wg_mald X (SMi hS 73 11 rfl) (SMl hS 73 4 rfl) z1 dX9_wrongAt_10 ?_
    refine wg_icmp_ge X 47 dX9_wrongAt_11 (by decide) (fun c2 => ?_) (fun c2 => ?_)
    · have h := if_t c2 h
      exact Ke x4 (sm_inj h).symm
    · have h := if_f c2 h
      refine wg_aload_n X 0 dX9_wrongAt_14 rfl rfl ?_
      refine wg_iload_n X 2 dX9_wrongAt_15 rfl rfl ?_
      refine wg_iload_n X 3 dX9_wrongAt_16 rfl rfl ?_
      refine wg_iload X 4 dX9_wrongAt_17 rfl ?_
      refine wg_iadd X dX9_wrongAt_19 ?_
      obtain ⟨r4, h3, h⟩ := bd_some h
      refine wg_callVi (As := [.int x2, .int (x3 + x4)]) (rest := []) X (c_X9_shows l E ad S hS C M x2 (x3 + x4)  h3) T_yX9_shows k_1225 cl9 (SMi hS 55 9 rfl) dX9_wrongAt_20 rfl rfl (Nat.le_of_ble_eq_true rfl) ⟨Nat.le_of_ble_eq_true rfl, Nat.le_of_ble_eq_true rfl⟩ ⟨Nat.zero_le _, Nat.zero_le _⟩ ?_
      refine wg_aload_n X 0 dX9_wrongAt_23 rfl rfl ?_
      refine wg_getR (b := 74) X cl9 (SMi hS 55 9 rfl) 43 (by decide) dX9_wrongAt_24 k_925 rfl (SMr hS 43 74 rfl) ?_
      refine wg_bipush (v := 40) X dX9_wrongAt_27 (by decide) ?_
      refine wg_iload_n X 1 dX9_wrongAt_29 rfl rfl ?_
      refine wg_imul X dX9_wrongAt_30 ?_
      refine wg_iload X 4 dX9_wrongAt_31 rfl ?_
      refine wg_iadd X dX9_wrongAt_33 ?_
      obtain ⟨z5, h⟩ := ck_some h
      refine wg_mald X (SMi hS 74 11 rfl) (SMl hS 74 160 rfl) z5 dX9_wrongAt_34 ?_
      refine wg_icmp_eq X 41 dX9_wrongAt_35 (by decide) (fun c6 => ?_) (fun c6 => ?_)
      · have h := if_t c6 h
        obtain ⟨v7, e8, h⟩ := lt_some h
        refine wg_iinc (lv' := [(4, .int v7), (0, .ref (ad 55)), (1, .int x1), (2, .int x2), (3, .int x3)]) X 4 dX9_wrongAt_41 rfl e8 (by decide) rfl ?_
        refine wg_goto X 3 dX9_wrongAt_44 (by decide) ?_
        refine wg_pick [1, 2, 3, 4, 0] (lv' := [(0, .ref (ad 55)), (1, .int x1), (2, .int x2), (3, .int x3), (4, .int v7)]) rfl ?_
        exact Kc v7 (sm_inj h).symm
      · have h := if_f c6 h
        refine wg_iload X 4 dX9_wrongAt_38 rfl ?_
        have hq := Kr _ (sm_inj h).symm
        exact wg_iret X ⟨hq, rfl, rfl⟩ hr dX9_wrongAt_40
set_option maxHeartbeats 4000000 in
set_option maxRecDepth 100000 in
theorem c_X9_wrongAt (l : Launch) (E : wg_Ev) (ad : Nat → Nat) (S : wg_Sh) (hS : wg_SM S) (N : Nat) (C : wg_C) (M : wg_M) (p1 : Int32) (p2 : Int32) (p3 : Int32)  {r0 : Int32} (h : f_X9_wrongAt N M p1 p2 p3 = some r0) : wg_Ci l yX9_wrongAt cX9_wrongAt 5 (some .int) 4 91 E ad S C M [.ref (ad 55), .int p1, .int p2, .int p3] r0 C M := by
  refine wg_start (own := RX9) (by decide +kernel) rfl (Nat.le_of_ble_eq_true rfl) ?_
  intro p e s m below meth c X hr hnm
  refine wg_lv (lv' := [(0, .ref (ad 55)), (1, .int p1), (2, .int p2), (3, .int p3)]) rfl ?_
  unfold f_X9_wrongAt at h
  refine wg_iconst (v := 0) X dX9_wrongAt_0 (by decide) ?_
  refine wg_istore (lv' := [(4, .int (0 : Int32)), (0, .ref (ad 55)), (1, .int p1), (2, .int p2), (3, .int p3)]) X dX9_wrongAt_1 rfl (by decide) rfl ?_
  obtain ⟨o10, h11, h⟩ := bs1_o h
  refine wg_pick [1, 2, 3, 4, 0] (lv' := [(0, .ref (ad 55)), (1, .int p1), (2, .int p2), (3, .int p3), (4, .int (0 : Int32))]) rfl ?_
  refine L_X9_wrongAt_l3 X hr hS r0 C N  M  p1 p2 p3  N (0 : Int32) o10 h11 (fun v9 e13 => ?_) (fun q12 e13 => ?_)
  · subst o10
    replace h := bs1_in h
    refine wg_iconst (v := -1) X dX9_wrongAt_47 (by decide) ?_
    exact wg_iret X ⟨(sm_inj h), rfl, rfl⟩ hr dX9_wrongAt_48
  · subst o10
    replace h := bs1_r h
    exact sm_inj h
-- WindowsGiveModel.isSheet(I)Z ('i',)
def f_X9_isSheet (p0 : Int32) : Option Int32 :=
  bd (f_X9_in p0.toInt64 (0 : Int64) (3 : Int64)) fun r2 =>
  ck (r2 = 0 ∨ r2 = 1) <|
  some r2
set_option maxHeartbeats 4000000 in
set_option maxRecDepth 100000 in
theorem c_X9_isSheet (l : Launch) (E : wg_Ev) (ad : Nat → Nat) (S : wg_Sh) (C : wg_C) (M : wg_M) (p0 : Int32)  {r0 : Int32} (h : f_X9_isSheet p0 = some r0) : wg_Ci l yX9_isSheet cX9_isSheet 1 (some .boolean) 1 25 E ad S C M [.int p0] r0 C M := by
  refine wg_start (own := RX9) (by decide +kernel) rfl (Nat.le_of_ble_eq_true rfl) ?_
  intro p e s m below meth c X hr hnm
  refine wg_lv (lv' := [(0, .int p0)]) rfl ?_
  unfold f_X9_isSheet at h
  refine wg_iload_n X 0 dX9_isSheet_0 rfl rfl ?_
  refine wg_i2l X dX9_isSheet_1 ?_
  refine wg_lconst (v := 0) X dX9_isSheet_2 (by decide) ?_
  refine wg_ldc2 (v := 3) X dX9_isSheet_3 k_1220 ?_
  obtain ⟨r2, h1, h⟩ := bd_some h
  refine wg_callSi (As := [.long (p0.toInt64), .long (0 : Int64), .long (3 : Int64)]) (rest := []) X (c_X9_in l E ad S C M p0.toInt64 (0 : Int64) (3 : Int64)  h1) T_yX9_in k_1021 dX9_isSheet_6 rfl rfl (Nat.le_of_ble_eq_true rfl) ⟨Nat.le_of_ble_eq_true rfl, Nat.le_of_ble_eq_true rfl⟩ ⟨Nat.zero_le _, Nat.zero_le _⟩ ?_
  obtain ⟨z3, h⟩ := ck_some h
  exact wg_zret X ⟨(sm_inj h), rfl, rfl⟩ hr z3 dX9_isSheet_9
-- WindowsGiveModel.seenBad(III)I (('c', 55), 'i', 'i', 'i')
def f_X9_seenBad (M : wg_M) (p1 : Int32) (p2 : Int32) (p3 : Int32) : Option Int32 :=
  bd (f_X9_isSheet p1) fun r2 =>
  if r2 = 0 then (
    some (-2 : Int32))
  else (
    bd (f_X9_isPane M p2) fun r5 =>
    if r5 = 0 then (
      some (-2 : Int32))
    else (
      bd (f_X9_isDay p3) fun r8 =>
      if r8 = 0 then (
        some (-2 : Int32))
      else (
        ck (inb p1 4) <|
        if (M.1 71 p1.toNatClampNeg) = 0 then (
          some (-11 : Int32))
        else (
          ck (inb p1 4) <|
          if (M.1 73 p1.toNatClampNeg) ≤ (10 : Int32) then (
            some (0 : Int32))
          else (
            some (-2 : Int32))))))
set_option maxHeartbeats 4000000 in
set_option maxRecDepth 100000 in
theorem c_X9_seenBad (l : Launch) (E : wg_Ev) (ad : Nat → Nat) (S : wg_Sh) (hS : wg_SM S) (C : wg_C) (M : wg_M) (p1 : Int32) (p2 : Int32) (p3 : Int32)  {r0 : Int32} (h : f_X9_seenBad M p1 p2 p3 = some r0) : wg_Ci l yX9_seenBad cX9_seenBad 4 (some .int) 2 46 E ad S C M [.ref (ad 55), .int p1, .int p2, .int p3] r0 C M := by
  refine wg_start (own := RX9) (by decide +kernel) rfl (Nat.le_of_ble_eq_true rfl) ?_
  intro p e s m below meth c X hr hnm
  refine wg_lv (lv' := [(0, .ref (ad 55)), (1, .int p1), (2, .int p2), (3, .int p3)]) rfl ?_
  unfold f_X9_seenBad at h
  refine wg_iload_n X 1 dX9_seenBad_0 rfl rfl ?_
  obtain ⟨r2, h1, h⟩ := bd_some h
  refine wg_callSi (As := [.int p1]) (rest := []) X (c_X9_isSheet l E ad S C M p1  h1) T_yX9_isSheet k_1217 dX9_seenBad_1 rfl rfl (Nat.le_of_ble_eq_true rfl) ⟨Nat.le_of_ble_eq_true rfl, Nat.le_of_ble_eq_true rfl⟩ ⟨Nat.zero_le _, Nat.zero_le _⟩ ?_
  refine wg_if_eq X 22 dX9_seenBad_4 (by decide) (fun c3 => ?_) (fun c3 => ?_)
  · have h := if_t c3 h
    refine wg_bipush (v := -2) X dX9_seenBad_22 (by decide) ?_
    exact wg_iret X ⟨(sm_inj h), rfl, rfl⟩ hr dX9_seenBad_24
  · have h := if_f c3 h
    refine wg_aload_n X 0 dX9_seenBad_7 rfl rfl ?_
    refine wg_iload_n X 2 dX9_seenBad_8 rfl rfl ?_
    obtain ⟨r5, h4, h⟩ := bd_some h
    refine wg_callVi (As := [.int p2]) (rest := []) X (c_X9_isPane l E ad S hS C M p2  h4) T_yX9_isPane k_1028 cl9 (SMi hS 55 9 rfl) dX9_seenBad_9 rfl rfl (Nat.le_of_ble_eq_true rfl) ⟨Nat.le_of_ble_eq_true rfl, Nat.le_of_ble_eq_true rfl⟩ ⟨Nat.zero_le _, Nat.zero_le _⟩ ?_
    refine wg_if_eq X 22 dX9_seenBad_12 (by decide) (fun c6 => ?_) (fun c6 => ?_)
    · have h := if_t c6 h
      refine wg_bipush (v := -2) X dX9_seenBad_22 (by decide) ?_
      exact wg_iret X ⟨(sm_inj h), rfl, rfl⟩ hr dX9_seenBad_24
    · have h := if_f c6 h
      refine wg_iload_n X 3 dX9_seenBad_15 rfl rfl ?_
      obtain ⟨r8, h7, h⟩ := bd_some h
      refine wg_callSi (As := [.int p3]) (rest := []) X (c_X9_isDay l E ad S C M p3  h7) T_yX9_isDay k_1024 dX9_seenBad_16 rfl rfl (Nat.le_of_ble_eq_true rfl) ⟨Nat.le_of_ble_eq_true rfl, Nat.le_of_ble_eq_true rfl⟩ ⟨Nat.zero_le _, Nat.zero_le _⟩ ?_
      refine wg_if_ne X 25 dX9_seenBad_19 (by decide) (fun c9 => ?_) (fun c9 => ?_)
      · have h := if_f c9 h
        refine wg_aload_n X 0 dX9_seenBad_25 rfl rfl ?_
        refine wg_getR (b := 71) X cl9 (SMi hS 55 9 rfl) 40 (by decide) dX9_seenBad_26 k_922 rfl (SMr hS 40 71 rfl) ?_
        refine wg_iload_n X 1 dX9_seenBad_29 rfl rfl ?_
        obtain ⟨z10, h⟩ := ck_some h
        refine wg_zald X (SMi hS 71 12 rfl) (SMl hS 71 4 rfl) z10 dX9_seenBad_30 ?_
        refine wg_if_ne X 37 dX9_seenBad_31 (by decide) (fun c11 => ?_) (fun c11 => ?_)
        · have h := if_f c11 h
          refine wg_aload_n X 0 dX9_seenBad_37 rfl rfl ?_
          refine wg_getR (b := 73) X cl9 (SMi hS 55 9 rfl) 42 (by decide) dX9_seenBad_38 k_924 rfl (SMr hS 42 73 rfl) ?_
          refine wg_iload_n X 1 dX9_seenBad_41 rfl rfl ?_
          obtain ⟨z12, h⟩ := ck_some h
          refine wg_mald X (SMi hS 73 11 rfl) (SMl hS 73 4 rfl) z12 dX9_seenBad_42 ?_
          refine wg_bipush (v := 10) X dX9_seenBad_43 (by decide) ?_
          refine wg_icmp_le X 53 dX9_seenBad_45 (by decide) (fun c13 => ?_) (fun c13 => ?_)
          · have h := if_t c13 h
            refine wg_iconst (v := 0) X dX9_seenBad_53 (by decide) ?_
            exact wg_iret X ⟨(sm_inj h), rfl, rfl⟩ hr dX9_seenBad_54
          · have h := if_f c13 h
            refine wg_bipush (v := -2) X dX9_seenBad_48 (by decide) ?_
            refine wg_goto X 54 dX9_seenBad_50 (by decide) ?_
            exact wg_iret X ⟨(sm_inj h), rfl, rfl⟩ hr dX9_seenBad_54
        · have h := if_t c11 h
          refine wg_bipush (v := -11) X dX9_seenBad_34 (by decide) ?_
          exact wg_iret X ⟨(sm_inj h), rfl, rfl⟩ hr dX9_seenBad_36
      · have h := if_t c9 h
        refine wg_bipush (v := -2) X dX9_seenBad_22 (by decide) ?_
        exact wg_iret X ⟨(sm_inj h), rfl, rfl⟩ hr dX9_seenBad_24
-- WindowsGiveModel.shiftsOf(III)I (('c', 55), 'i', 'i', 'i')
def f_X9_shiftsOf_j50l14 (N : Nat) (M : wg_M)  (x1 : Int32) (x2 : Int32) (x3 : Int32) (x4 : Int32) (x5 : Int32) (x6 : Int32) (s0 : Int32) (s1 : Int32) : Option ((wg_M × Int32 × Int32) ⊕ (wg_M × Int32 × Int32)) :=
  lt_ (s1 ||| (s0 <<< (x6 &&& 31))) fun v11 =>
  lt_ (x6 + (1 : Int32)) fun v13 =>
  some (.inl (M, v11, v13))
def f_X9_shiftsOf_l14 (N : Nat)  (x1 : Int32) (x2 : Int32) (x3 : Int32) (x4 : Int32) (M : wg_M) (x5 : Int32) (x6 : Int32) : Option ((wg_M × Int32 × Int32) ⊕ (wg_M × Int32 × Int32)) :=
  if (19 : Int32) ≤ x6 then (
    some (.inr (M, x5, x6)))
  else (
    ck (inb x2 8) <|
    lt_ (wg_sM M 62 x2.toNatClampNeg (x6 - (9 : Int32))) fun M6 =>
    bd (f_X9_wrongAt N M6 x1 x2 x3) fun r9 =>
    if r9 = (-1 : Int32) then (
      f_X9_shiftsOf_j50l14 N M6  x1 x2 x3 x4 x5 x6 (1 : Int32) x5)
    else (
      f_X9_shiftsOf_j50l14 N M6  x1 x2 x3 x4 x5 x6 (0 : Int32) x5))
def f_X9_shiftsOf (N : Nat) (M : wg_M) (p1 : Int32) (p2 : Int32) (p3 : Int32) : Option (Int32 × wg_M) :=
  ck (inb p2 8) <|
  lt_ (M.1 62 p2.toNatClampNeg) fun v2 =>
  bd3 (lp (fun o => f_X9_shiftsOf_l14 N  p1 p2 p3 v2 o.1 o.2.1 o.2.2) N (M, (0 : Int32), (0 : Int32))) fun M15 v16 v17 =>
  ck (inb p2 8) <|
  lt_ (wg_sM M15 62 p2.toNatClampNeg v2) fun M23 =>
  some (v16, M23)
abbrev G_X9_shiftsOf (p : Program) (l : Launch) (e : Env) (s : State) (m : MethodId) (args : Array Value) (below : List Frame) (meth : Method) (c : Code) (E : wg_Ev) (ad : Nat → Nat) (S : wg_Sh) (r0 : Int32) (C0 : wg_C) (M0 : wg_M) (pc : Nat) (C : wg_C) (M : wg_M) (lv : List (Nat × Value)) (st : List Value) : Prop := wg_G p l e (wg_Rm 5 115) s m args below meth c (MQ below (wg_Qi E ad S r0 C0 M0) args s 0 0 (wg_A E)) 7 E ad S 0 0 pc C M lv st
set_option maxHeartbeats 4000000 in
set_option maxRecDepth 100000 in
theorem J_X9_shiftsOf_j50l14 {p : Program} {l : Launch} {e : Env} {s : State} {m : MethodId} {args : Array Value} {below : List Frame} {meth : Method} {c : Code} {E : wg_Ev} {ad : Nat → Nat} {S : wg_Sh} (X : wg_X p s m args meth c cX9_shiftsOf 7 RX9 E) (hr : meth.sig.returnType = (some .int)) (hS : wg_SM S) (r0 : Int32) (D0 : wg_M) (C : wg_C) (N : Nat)  (M : wg_M)  (x1 : Int32) (x2 : Int32) (x3 : Int32) (x4 : Int32) (x5 : Int32) (x6 : Int32) (s0 : Int32) (s1 : Int32)  (y : ((wg_M × Int32 × Int32) ⊕ (wg_M × Int32 × Int32))) (Kc : ∀ (Dy : wg_M) (y5 : Int32) (y6 : Int32), y = Sum.inl (Dy, y5, y6) → G_X9_shiftsOf p l e s m args below meth c E ad S r0 C D0 14 C Dy [(0, .ref (ad 55)), (1, .int x1), (2, .int x2), (3, .int x3), (4, .int x4), (5, .int y5), (6, .int y6)] []) (Ke : ∀ (Dy : wg_M) (y5 : Int32) (y6 : Int32), y = Sum.inr ((Dy, y5, y6)) → G_X9_shiftsOf p l e s m args below meth c E ad S r0 C D0 62 C Dy [(0, .ref (ad 55)), (1, .int x1), (2, .int x2), (3, .int x3), (4, .int x4), (5, .int y5), (6, .int y6)] []) (h : f_X9_shiftsOf_j50l14 N M  x1 x2 x3 x4 x5 x6 s0 s1 = some y) : G_X9_shiftsOf p l e s m args below meth c E ad S r0 C D0 50 C M [(0, .ref (ad 55)), (1, .int x1), (2, .int x2), (3, .int x3), (4, .int x4), (5, .int x5), (6, .int x6)] [.int s0, .int s1] := by
  unfold f_X9_shiftsOf_j50l14 at h
  refine wg_iload X 6 dX9_shiftsOf_50 rfl ?_
  refine wg_ishl X dX9_shiftsOf_52 ?_
  refine wg_ior X dX9_shiftsOf_53 ?_
  obtain ⟨v11, e12, h⟩ := lt_some h
  refine wg_istore (lv' := [(5, .int v11), (0, .ref (ad 55)), (1, .int x1), (2, .int x2), (3, .int x3), (4, .int x4), (6, .int x6)]) X dX9_shiftsOf_54 e12 (by decide) rfl ?_
  obtain ⟨v13, e14, h⟩ := lt_some h
  refine wg_iinc (lv' := [(6, .int v13), (5, .int v11), (0, .ref (ad 55)), (1, .int x1), (2, .int x2), (3, .int x3), (4, .int x4)]) X 6 dX9_shiftsOf_56 rfl e14 (by decide) rfl ?_
  refine wg_goto X 14 dX9_shiftsOf_59 (by decide) ?_
  refine wg_pick [2, 3, 4, 5, 6, 1, 0] (lv' := [(0, .ref (ad 55)), (1, .int x1), (2, .int x2), (3, .int x3), (4, .int x4), (5, .int v11), (6, .int v13)]) rfl ?_
  exact Kc M v11 v13 (sm_inj h).symm
set_option maxHeartbeats 4000000 in
set_option maxRecDepth 100000 in
theorem L_X9_shiftsOf_l14 {p : Program} {l : Launch} {e : Env} {s : State} {m : MethodId} {args : Array Value} {below : List Frame} {meth : Method} {c : Code} {E : wg_Ev} {ad : Nat → Nat} {S : wg_Sh} (X : wg_X p s m args meth c cX9_shiftsOf 7 RX9 E) (hr : meth.sig.returnType = (some .int)) (hS : wg_SM S) (r0 : Int32) (D0 : wg_M) (C : wg_C) (N : Nat)   (x1 : Int32) (x2 : Int32) (x3 : Int32) (x4 : Int32)  : ∀ (n : Nat) (M : wg_M) (x5 : Int32) (x6 : Int32) (o : (wg_M × Int32 × Int32)), lp (fun o => f_X9_shiftsOf_l14 N  x1 x2 x3 x4 o.1 o.2.1 o.2.2) n (M, x5, x6) = some o → (∀ (Dy : wg_M) (y5 : Int32) (y6 : Int32), o = (Dy, y5, y6) → G_X9_shiftsOf p l e s m args below meth c E ad S r0 C D0 62 C Dy [(0, .ref (ad 55)), (1, .int x1), (2, .int x2), (3, .int x3), (4, .int x4), (5, .int y5), (6, .int y6)] []) → G_X9_shiftsOf p l e s m args below meth c E ad S r0 C D0 14 C M [(0, .ref (ad 55)), (1, .int x1), (2, .int x2), (3, .int x3), (4, .int x4), (5, .int x5), (6, .int x6)] [] := by
  intro n
  induction n with
  | zero => exact fun _ _ _ o h => (lp_zero h).elim
  | succ n ih =>
    intro M x5 x6 o h K
    obtain ⟨o1, hb, h2⟩ := lp_some h
    replace hb : f_X9_shiftsOf_l14 N  x1 x2 x3 x4 M x5 x6 = some o1 := hb
    clear h
    have Kc : ∀ (Dy : wg_M) (y5 : Int32) (y6 : Int32), o1 = Sum.inl (Dy, y5, y6) → G_X9_shiftsOf p l e s m args below meth c E ad S r0 C D0 14 C Dy [(0, .ref (ad 55)), (1, .int x1), (2, .int x2), (3, .int x3), (4, .int x4), (5, .int y5), (6, .int y6)] [] := fun Dy y5 y6 e1 => by
      subst e1
      exact ih Dy y5 y6 o h2 K
    have Ke : ∀ (Dy : wg_M) (y5 : Int32) (y6 : Int32), o1 = Sum.inr ((Dy, y5, y6)) → G_X9_shiftsOf p l e s m args below meth c E ad S r0 C D0 62 C Dy [(0, .ref (ad 55)), (1, .int x1), (2, .int x2), (3, .int x3), (4, .int x4), (5, .int y5), (6, .int y6)] [] := fun Dy y5 y6 e1 => by
      subst e1
      exact K Dy y5 y6 (sm_inj (α := (wg_M × Int32 × Int32)) h2).symm
    clear ih K h2
    unfold f_X9_shiftsOf_l14 at hb
    have h := hb
    clear hb
    refine wg_iload X 6 dX9_shiftsOf_14 rfl ?_
    refine wg_bipush (v := 19) X dX9_shiftsOf_16 (by decide) ?_
    refine wg_icmp_ge X 62 dX9_shiftsOf_18 (by decide) (fun c4 => ?_) (fun c4 => ?_)
    · have h := if_t c4 h
      exact Ke M x5 x6 (sm_inj h).symm
    · have h := if_f c4 h
      refine wg_aload_n X 0 dX9_shiftsOf_21 rfl rfl ?_
      refine wg_getR (b := 62) X cl9 (SMi hS 55 9 rfl) 10 (by decide) dX9_shiftsOf_22 k_892 rfl (SMr hS 10 62 rfl) ?_
      refine wg_iload_n X 2 dX9_shiftsOf_25 rfl rfl ?_
      refine wg_iload X 6 dX9_shiftsOf_26 rfl ?_
      refine wg_bipush (v := 9) X dX9_shiftsOf_28 (by decide) ?_
      refine wg_isub X dX9_shiftsOf_30 ?_
      obtain ⟨z5, h⟩ := ck_some h
      obtain ⟨M6, e7, h⟩ := lt_some h
      refine wg_maste X (SMi hS 62 11 rfl) (SMl hS 62 8 rfl) z5 dX9_shiftsOf_31 e7 ?_
      refine wg_iload X 5 dX9_shiftsOf_32 rfl ?_
      refine wg_aload_n X 0 dX9_shiftsOf_34 rfl rfl ?_
      refine wg_iload_n X 1 dX9_shiftsOf_35 rfl rfl ?_
      refine wg_iload_n X 2 dX9_shiftsOf_36 rfl rfl ?_
      refine wg_iload_n X 3 dX9_shiftsOf_37 rfl rfl ?_
      obtain ⟨r9, h8, h⟩ := bd_some h
      refine wg_callVi (As := [.int x1, .int x2, .int x3]) (rest := [.int x5]) X (c_X9_wrongAt l E ad S hS N C M6 x1 x2 x3  h8) T_yX9_wrongAt k_1221 cl9 (SMi hS 55 9 rfl) dX9_shiftsOf_38 rfl rfl (Nat.le_of_ble_eq_true rfl) ⟨Nat.le_of_ble_eq_true rfl, Nat.le_of_ble_eq_true rfl⟩ ⟨Nat.zero_le _, Nat.zero_le _⟩ ?_
      refine wg_iconst (v := -1) X dX9_shiftsOf_41 (by decide) ?_
      refine wg_icmp_ne X 49 dX9_shiftsOf_42 (by decide) (fun c10 => ?_) (fun c10 => ?_)
      · have h := if_f c10 h
        refine wg_iconst (v := 0) X dX9_shiftsOf_49 (by decide) ?_
        exact J_X9_shiftsOf_j50l14 X hr hS r0 D0 C N  M6  x1 x2 x3 x4 x5 x6 (0 : Int32) x5  _ Kc Ke h
      · have h := if_t c10 h
        refine wg_iconst (v := 1) X dX9_shiftsOf_45 (by decide) ?_
        refine wg_goto X 50 dX9_shiftsOf_46 (by decide) ?_
        exact J_X9_shiftsOf_j50l14 X hr hS r0 D0 C N  M6  x1 x2 x3 x4 x5 x6 (1 : Int32) x5  _ Kc Ke h
set_option maxHeartbeats 4000000 in
set_option maxRecDepth 100000 in
theorem c_X9_shiftsOf (l : Launch) (E : wg_Ev) (ad : Nat → Nat) (S : wg_Sh) (hS : wg_SM S) (N : Nat) (C : wg_C) (M : wg_M) (p1 : Int32) (p2 : Int32) (p3 : Int32)  {r0 : Int32} {D0 : wg_M} (h : f_X9_shiftsOf N M p1 p2 p3 = some (r0, D0)) : wg_Ci l yX9_shiftsOf cX9_shiftsOf 7 (some .int) 5 115 E ad S C M [.ref (ad 55), .int p1, .int p2, .int p3] r0 C D0 := by
  refine wg_start (own := RX9) (by decide +kernel) rfl (Nat.le_of_ble_eq_true rfl) ?_
  intro p e s m below meth c X hr hnm
  refine wg_lv (lv' := [(0, .ref (ad 55)), (1, .int p1), (2, .int p2), (3, .int p3)]) rfl ?_
  unfold f_X9_shiftsOf at h
  refine wg_aload_n X 0 dX9_shiftsOf_0 rfl rfl ?_
  refine wg_getR (b := 62) X cl9 (SMi hS 55 9 rfl) 10 (by decide) dX9_shiftsOf_1 k_892 rfl (SMr hS 10 62 rfl) ?_
  refine wg_iload_n X 2 dX9_shiftsOf_4 rfl rfl ?_
  obtain ⟨z1, h⟩ := ck_some h
  refine wg_mald X (SMi hS 62 11 rfl) (SMl hS 62 8 rfl) z1 dX9_shiftsOf_5 ?_
  obtain ⟨v2, e3, h⟩ := lt_some h
  refine wg_istore (lv' := [(4, .int v2), (0, .ref (ad 55)), (1, .int p1), (2, .int p2), (3, .int p3)]) X dX9_shiftsOf_6 e3 (by decide) rfl ?_
  refine wg_iconst (v := 0) X dX9_shiftsOf_8 (by decide) ?_
  refine wg_istore (lv' := [(5, .int (0 : Int32)), (4, .int v2), (0, .ref (ad 55)), (1, .int p1), (2, .int p2), (3, .int p3)]) X dX9_shiftsOf_9 rfl (by decide) rfl ?_
  refine wg_iconst (v := 0) X dX9_shiftsOf_11 (by decide) ?_
  refine wg_istore (lv' := [(6, .int (0 : Int32)), (5, .int (0 : Int32)), (4, .int v2), (0, .ref (ad 55)), (1, .int p1), (2, .int p2), (3, .int p3)]) X dX9_shiftsOf_12 rfl (by decide) rfl ?_
  obtain ⟨o18, h19, h⟩ := bd3_o h
  refine wg_pick [3, 4, 5, 6, 2, 1, 0] (lv' := [(0, .ref (ad 55)), (1, .int p1), (2, .int p2), (3, .int p3), (4, .int v2), (5, .int (0 : Int32)), (6, .int (0 : Int32))]) rfl ?_
  refine L_X9_shiftsOf_l14 X hr hS r0 D0 C N   p1 p2 p3 v2  N M (0 : Int32) (0 : Int32) o18 h19 (fun M15 v16 v17 e21 => ?_)
  · subst o18
    replace h := bd3_in h
    refine wg_aload_n X 0 dX9_shiftsOf_62 rfl rfl ?_
    refine wg_getR (b := 62) X cl9 (SMi hS 55 9 rfl) 10 (by decide) dX9_shiftsOf_63 k_892 rfl (SMr hS 10 62 rfl) ?_
    refine wg_iload_n X 2 dX9_shiftsOf_66 rfl rfl ?_
    refine wg_iload X 4 dX9_shiftsOf_67 rfl ?_
    obtain ⟨z22, h⟩ := ck_some h
    obtain ⟨M23, e24, h⟩ := lt_some h
    refine wg_maste X (SMi hS 62 11 rfl) (SMl hS 62 8 rfl) z22 dX9_shiftsOf_69 e24 ?_
    refine wg_iload X 5 dX9_shiftsOf_70 rfl ?_
    exact wg_iret X ⟨(Prod.mk.inj (sm_inj h)).1, rfl, (Prod.mk.inj (sm_inj h)).2⟩ hr dX9_shiftsOf_72
-- WindowsGiveModel.seen(IIII)I (('c', 55), 'i', 'i', 'i', 'i')
def f_X9_seen_j108l76 (N : Nat) (M : wg_M)  (x1 : Int32) (x2 : Int32) (x3 : Int32) (x6 : Int32) (x7 : Int32) (x8 : Int32) (s0 : Int32) (s1 : Int32) : Option ((wg_M × Int32 × Int32) ⊕ (wg_M × Int32 × Int32)) :=
  lt_ (s1 ||| (s0 <<< (x8 &&& 31))) fun v18 =>
  lt_ (x8 + (1 : Int32)) fun v20 =>
  some (.inl (M, v18, v20))
def f_X9_seen_l76 (N : Nat)  (x1 : Int32) (x2 : Int32) (x3 : Int32) (x6 : Int32) (M : wg_M) (x7 : Int32) (x8 : Int32) : Option ((wg_M × Int32 × Int32) ⊕ (wg_M × Int32 × Int32)) :=
  if (5 : Int32) < x8 then (
    some (.inr (M, x7, x8)))
  else (
    ck (inb x2 8) <|
    lt_ (wg_sM M 60 x2.toNatClampNeg x8) fun M13 =>
    bd (f_X9_wrongAt N M13 x1 x2 x3) fun r16 =>
    if r16 = (-1 : Int32) then (
      f_X9_seen_j108l76 N M13  x1 x2 x3 x6 x7 x8 (1 : Int32) x7)
    else (
      f_X9_seen_j108l76 N M13  x1 x2 x3 x6 x7 x8 (0 : Int32) x7))
def f_X9_seen (N : Nat) (M : wg_M) (p1 : Int32) (p2 : Int32) (p3 : Int32) (p4 : Int32) : Option (Int32 × wg_M) :=
  bd (f_X9_in p4.toInt64 (0 : Int64) (2 : Int64)) fun r2 =>
  if r2 = 0 then (
    some ((-2 : Int32), M))
  else (
    bd (f_X9_seenBad M p1 p2 p3) fun r5 =>
    if r5 = 0 then (
      if (2 : Int32) ≤ p4 then (
        ck (inb p2 8) <|
        lt_ (M.1 60 p2.toNatClampNeg) fun v9 =>
        bd3 (lp (fun o => f_X9_seen_l76 N  p1 p2 p3 v9 o.1 o.2.1 o.2.2) N (M, (0 : Int32), (0 : Int32))) fun M22 v23 v24 =>
        ck (inb p2 8) <|
        lt_ (wg_sM M22 60 p2.toNatClampNeg v9) fun M30 =>
        some (v23, M30))
      else (
        if p4 = 0 then (
          bd (f_X9_wrongAt N M p1 p2 p3) fun r37 =>
          some (r37, M))
        else (
          bd2 (f_X9_shiftsOf N M p1 p2 p3) fun r34 M35 =>
          some (r34, M35))))
    else (
      some (r5, M)))
abbrev G_X9_seen (p : Program) (l : Launch) (e : Env) (s : State) (m : MethodId) (args : Array Value) (below : List Frame) (meth : Method) (c : Code) (E : wg_Ev) (ad : Nat → Nat) (S : wg_Sh) (r0 : Int32) (C0 : wg_C) (M0 : wg_M) (pc : Nat) (C : wg_C) (M : wg_M) (lv : List (Nat × Value)) (st : List Value) : Prop := wg_G p l e (wg_Rm 6 141) s m args below meth c (MQ below (wg_Qi E ad S r0 C0 M0) args s 0 0 (wg_A E)) 9 E ad S 0 0 pc C M lv st
set_option maxHeartbeats 4000000 in
set_option maxRecDepth 100000 in
theorem J_X9_seen_j108l76 {p : Program} {l : Launch} {e : Env} {s : State} {m : MethodId} {args : Array Value} {below : List Frame} {meth : Method} {c : Code} {E : wg_Ev} {ad : Nat → Nat} {S : wg_Sh} (X : wg_X p s m args meth c cX9_seen 9 RX9 E) (hr : meth.sig.returnType = (some .int)) (hS : wg_SM S) (r0 : Int32) (D0 : wg_M) (C : wg_C) (N : Nat)  (M : wg_M)  (x1 : Int32) (x2 : Int32) (x3 : Int32) (x6 : Int32) (x7 : Int32) (x8 : Int32) (s0 : Int32) (s1 : Int32)  (y : ((wg_M × Int32 × Int32) ⊕ (wg_M × Int32 × Int32))) (Kc : ∀ (Dy : wg_M) (y7 : Int32) (y8 : Int32), y = Sum.inl (Dy, y7, y8) → G_X9_seen p l e s m args below meth c E ad S r0 C D0 76 C Dy [(0, .ref (ad 55)), (1, .int x1), (2, .int x2), (3, .int x3), (6, .int x6), (7, .int y7), (8, .int y8)] []) (Ke : ∀ (Dy : wg_M) (y7 : Int32) (y8 : Int32), y = Sum.inr ((Dy, y7, y8)) → G_X9_seen p l e s m args below meth c E ad S r0 C D0 120 C Dy [(0, .ref (ad 55)), (1, .int x1), (2, .int x2), (3, .int x3), (6, .int x6), (7, .int y7), (8, .int y8)] []) (h : f_X9_seen_j108l76 N M  x1 x2 x3 x6 x7 x8 s0 s1 = some y) : G_X9_seen p l e s m args below meth c E ad S r0 C D0 108 C M [(0, .ref (ad 55)), (1, .int x1), (2, .int x2), (3, .int x3), (6, .int x6), (7, .int x7), (8, .int x8)] [.int s0, .int s1] := by
  unfold f_X9_seen_j108l76 at h
  refine wg_iload X 6 dX9_seen_108 rfl ?_
  refine wg_ishl X dX9_seen_110 ?_
  refine wg_ior X dX9_seen_111 ?_
  obtain ⟨v18, e19, h⟩ := lt_some h
  refine wg_istore (lv' := [(7, .int v18), (0, .ref (ad 55)), (1, .int x1), (2, .int x2), (3, .int x3), (6, .int x6), (8, .int x8)]) X dX9_seen_112 e19 (by decide) rfl ?_
  obtain ⟨v20, e21, h⟩ := lt_some h
  refine wg_iinc (lv' := [(8, .int v20), (7, .int v18), (0, .ref (ad 55)), (1, .int x1), (2, .int x2), (3, .int x3), (6, .int x6)]) X 6 dX9_seen_114 rfl e21 (by decide) rfl ?_
  refine wg_goto X 76 dX9_seen_117 (by decide) ?_
  refine wg_pick [2, 3, 4, 5, 6, 1, 0] (lv' := [(0, .ref (ad 55)), (1, .int x1), (2, .int x2), (3, .int x3), (6, .int x6), (7, .int v18), (8, .int v20)]) rfl ?_
  exact Kc M v18 v20 (sm_inj h).symm
set_option maxHeartbeats 4000000 in
set_option maxRecDepth 100000 in
theorem L_X9_seen_l76 {p : Program} {l : Launch} {e : Env} {s : State} {m : MethodId} {args : Array Value} {below : List Frame} {meth : Method} {c : Code} {E : wg_Ev} {ad : Nat → Nat} {S : wg_Sh} (X : wg_X p s m args meth c cX9_seen 9 RX9 E) (hr : meth.sig.returnType = (some .int)) (hS : wg_SM S) (r0 : Int32) (D0 : wg_M) (C : wg_C) (N : Nat)   (x1 : Int32) (x2 : Int32) (x3 : Int32) (x6 : Int32)  : ∀ (n : Nat) (M : wg_M) (x7 : Int32) (x8 : Int32) (o : (wg_M × Int32 × Int32)), lp (fun o => f_X9_seen_l76 N  x1 x2 x3 x6 o.1 o.2.1 o.2.2) n (M, x7, x8) = some o → (∀ (Dy : wg_M) (y7 : Int32) (y8 : Int32), o = (Dy, y7, y8) → G_X9_seen p l e s m args below meth c E ad S r0 C D0 120 C Dy [(0, .ref (ad 55)), (1, .int x1), (2, .int x2), (3, .int x3), (6, .int x6), (7, .int y7), (8, .int y8)] []) → G_X9_seen p l e s m args below meth c E ad S r0 C D0 76 C M [(0, .ref (ad 55)), (1, .int x1), (2, .int x2), (3, .int x3), (6, .int x6), (7, .int x7), (8, .int x8)] [] := by
  intro n
  induction n with
  | zero => exact fun _ _ _ o h => (lp_zero h).elim
  | succ n ih =>
    intro M x7 x8 o h K
    obtain ⟨o1, hb, h2⟩ := lp_some h
    replace hb : f_X9_seen_l76 N  x1 x2 x3 x6 M x7 x8 = some o1 := hb
    clear h
    have Kc : ∀ (Dy : wg_M) (y7 : Int32) (y8 : Int32), o1 = Sum.inl (Dy, y7, y8) → G_X9_seen p l e s m args below meth c E ad S r0 C D0 76 C Dy [(0, .ref (ad 55)), (1, .int x1), (2, .int x2), (3, .int x3), (6, .int x6), (7, .int y7), (8, .int y8)] [] := fun Dy y7 y8 e1 => by
      subst e1
      exact ih Dy y7 y8 o h2 K
    have Ke : ∀ (Dy : wg_M) (y7 : Int32) (y8 : Int32), o1 = Sum.inr ((Dy, y7, y8)) → G_X9_seen p l e s m args below meth c E ad S r0 C D0 120 C Dy [(0, .ref (ad 55)), (1, .int x1), (2, .int x2), (3, .int x3), (6, .int x6), (7, .int y7), (8, .int y8)] [] := fun Dy y7 y8 e1 => by
      subst e1
      exact K Dy y7 y8 (sm_inj (α := (wg_M × Int32 × Int32)) h2).symm
    clear ih K h2
    unfold f_X9_seen_l76 at hb
    have h := hb
    clear hb
    refine wg_iload X 6 dX9_seen_76 rfl ?_
    refine wg_iconst (v := 5) X dX9_seen_78 (by decide) ?_
    refine wg_icmp_gt X 120 dX9_seen_79 (by decide) (fun c11 => ?_) (fun c11 => ?_)
    · have h := if_t c11 h
      exact Ke M x7 x8 (sm_inj h).symm
    · have h := if_f c11 h
      refine wg_aload_n X 0 dX9_seen_82 rfl rfl ?_
      refine wg_getR (b := 60) X cl9 (SMi hS 55 9 rfl) 8 (by decide) dX9_seen_83 k_890 rfl (SMr hS 8 60 rfl) ?_
      refine wg_iload_n X 2 dX9_seen_86 rfl rfl ?_
      refine wg_iload X 6 dX9_seen_87 rfl ?_
      obtain ⟨z12, h⟩ := ck_some h
      obtain ⟨M13, e14, h⟩ := lt_some h
      refine wg_maste X (SMi hS 60 11 rfl) (SMl hS 60 8 rfl) z12 dX9_seen_89 e14 ?_
      refine wg_iload X 5 dX9_seen_90 rfl ?_
      refine wg_aload_n X 0 dX9_seen_92 rfl rfl ?_
      refine wg_iload_n X 1 dX9_seen_93 rfl rfl ?_
      refine wg_iload_n X 2 dX9_seen_94 rfl rfl ?_
      refine wg_iload_n X 3 dX9_seen_95 rfl rfl ?_
      obtain ⟨r16, h15, h⟩ := bd_some h
      refine wg_callVi (As := [.int x1, .int x2, .int x3]) (rest := [.int x7]) X (c_X9_wrongAt l E ad S hS N C M13 x1 x2 x3  h15) T_yX9_wrongAt k_1221 cl9 (SMi hS 55 9 rfl) dX9_seen_96 rfl rfl (Nat.le_of_ble_eq_true rfl) ⟨Nat.le_of_ble_eq_true rfl, Nat.le_of_ble_eq_true rfl⟩ ⟨Nat.zero_le _, Nat.zero_le _⟩ ?_
      refine wg_iconst (v := -1) X dX9_seen_99 (by decide) ?_
      refine wg_icmp_ne X 107 dX9_seen_100 (by decide) (fun c17 => ?_) (fun c17 => ?_)
      · have h := if_f c17 h
        refine wg_iconst (v := 0) X dX9_seen_107 (by decide) ?_
        exact J_X9_seen_j108l76 X hr hS r0 D0 C N  M13  x1 x2 x3 x6 x7 x8 (0 : Int32) x7  _ Kc Ke h
      · have h := if_t c17 h
        refine wg_iconst (v := 1) X dX9_seen_103 (by decide) ?_
        refine wg_goto X 108 dX9_seen_104 (by decide) ?_
        exact J_X9_seen_j108l76 X hr hS r0 D0 C N  M13  x1 x2 x3 x6 x7 x8 (1 : Int32) x7  _ Kc Ke h
set_option maxHeartbeats 4000000 in
set_option maxRecDepth 100000 in
theorem c_X9_seen (l : Launch) (E : wg_Ev) (ad : Nat → Nat) (S : wg_Sh) (hS : wg_SM S) (N : Nat) (C : wg_C) (M : wg_M) (p1 : Int32) (p2 : Int32) (p3 : Int32) (p4 : Int32)  {r0 : Int32} {D0 : wg_M} (h : f_X9_seen N M p1 p2 p3 p4 = some (r0, D0)) : wg_Ci l yX9_seen cX9_seen 9 (some .int) 6 141 E ad S C M [.ref (ad 55), .int p1, .int p2, .int p3, .int p4] r0 C D0 := by
  refine wg_start (own := RX9) (by decide +kernel) rfl (Nat.le_of_ble_eq_true rfl) ?_
  intro p e s m below meth c X hr hnm
  refine wg_lv (lv' := [(0, .ref (ad 55)), (1, .int p1), (2, .int p2), (3, .int p3), (4, .int p4)]) rfl ?_
  unfold f_X9_seen at h
  refine wg_iload X 4 dX9_seen_0 rfl ?_
  refine wg_i2l X dX9_seen_2 ?_
  refine wg_lconst (v := 0) X dX9_seen_3 (by decide) ?_
  refine wg_ldc2 (v := 2) X dX9_seen_4 k_1061 ?_
  obtain ⟨r2, h1, h⟩ := bd_some h
  refine wg_callSi (As := [.long (p4.toInt64), .long (0 : Int64), .long (2 : Int64)]) (rest := []) X (c_X9_in l E ad S C M p4.toInt64 (0 : Int64) (2 : Int64)  h1) T_yX9_in k_1021 dX9_seen_7 rfl rfl (Nat.le_of_ble_eq_true rfl) ⟨Nat.le_of_ble_eq_true rfl, Nat.le_of_ble_eq_true rfl⟩ ⟨Nat.zero_le _, Nat.zero_le _⟩ ?_
  refine wg_if_ne X 16 dX9_seen_10 (by decide) (fun c3 => ?_) (fun c3 => ?_)
  · have h := if_f c3 h
    refine wg_aload_n X 0 dX9_seen_16 rfl rfl ?_
    refine wg_iload_n X 1 dX9_seen_17 rfl rfl ?_
    refine wg_iload_n X 2 dX9_seen_18 rfl rfl ?_
    refine wg_iload_n X 3 dX9_seen_19 rfl rfl ?_
    obtain ⟨r5, h4, h⟩ := bd_some h
    refine wg_callVi (As := [.int p1, .int p2, .int p3]) (rest := []) X (c_X9_seenBad l E ad S hS C M p1 p2 p3  h4) T_yX9_seenBad k_1213 cl9 (SMi hS 55 9 rfl) dX9_seen_20 rfl rfl (Nat.le_of_ble_eq_true rfl) ⟨Nat.le_of_ble_eq_true rfl, Nat.le_of_ble_eq_true rfl⟩ ⟨Nat.zero_le _, Nat.zero_le _⟩ ?_
    refine wg_istore (lv' := [(5, .int r5), (0, .ref (ad 55)), (1, .int p1), (2, .int p2), (3, .int p3), (4, .int p4)]) X dX9_seen_23 rfl (by decide) rfl ?_
    refine wg_iload X 0 dX9_seen_25 rfl ?_
    refine wg_if_eq X 33 dX9_seen_27 (by decide) (fun c6 => ?_) (fun c6 => ?_)
    · have h := if_t c6 h
      refine wg_iload X 5 dX9_seen_33 rfl ?_
      refine wg_iconst (v := 2) X dX9_seen_35 (by decide) ?_
      refine wg_icmp_ge X 62 dX9_seen_36 (by decide) (fun c7 => ?_) (fun c7 => ?_)
      · have h := if_t c7 h
        refine wg_aload_n X 1 dX9_seen_62 rfl rfl ?_
        refine wg_getR (b := 60) X cl9 (SMi hS 55 9 rfl) 8 (by decide) dX9_seen_63 k_890 rfl (SMr hS 8 60 rfl) ?_
        refine wg_iload_n X 3 dX9_seen_66 rfl rfl ?_
        obtain ⟨z8, h⟩ := ck_some h
        refine wg_mald X (SMi hS 60 11 rfl) (SMl hS 60 8 rfl) z8 dX9_seen_67 ?_
        obtain ⟨v9, e10, h⟩ := lt_some h
        refine wg_istore (lv' := [(6, .int v9), (5, .int r5), (0, .ref (ad 55)), (1, .int p1), (2, .int p2), (3, .int p3), (4, .int p4)]) X dX9_seen_68 e10 (by decide) rfl ?_
        refine wg_iconst (v := 0) X dX9_seen_70 (by decide) ?_
        refine wg_istore (lv' := [(7, .int (0 : Int32)), (6, .int v9), (5, .int r5), (0, .ref (ad 55)), (1, .int p1), (2, .int p2), (3, .int p3), (4, .int p4)]) X dX9_seen_71 rfl (by decide) rfl ?_
        refine wg_iconst (v := 0) X dX9_seen_73 (by decide) ?_
        refine wg_istore (lv' := [(8, .int (0 : Int32)), (7, .int (0 : Int32)), (6, .int v9), (5, .int r5), (0, .ref (ad 55)), (1, .int p1), (2, .int p2), (3, .int p3), (4, .int p4)]) X dX9_seen_74 rfl (by decide) rfl ?_
        obtain ⟨o25, h26, h⟩ := bd3_o h
        refine wg_pick [4, 5, 6, 7, 2, 1, 0] (lv' := [(0, .ref (ad 55)), (1, .int p1), (2, .int p2), (3, .int p3), (6, .int v9), (7, .int (0 : Int32)), (8, .int (0 : Int32))]) rfl ?_
        refine L_X9_seen_l76 X hr hS r0 D0 C N   p1 p2 p3 v9  N M (0 : Int32) (0 : Int32) o25 h26 (fun M22 v23 v24 e28 => ?_)
        · subst o25
          replace h := bd3_in h
          refine wg_aload_n X 0 dX9_seen_120 rfl rfl ?_
          refine wg_getR (b := 60) X cl9 (SMi hS 55 9 rfl) 8 (by decide) dX9_seen_121 k_890 rfl (SMr hS 8 60 rfl) ?_
          refine wg_iload_n X 2 dX9_seen_124 rfl rfl ?_
          refine wg_iload X 4 dX9_seen_125 rfl ?_
          obtain ⟨z29, h⟩ := ck_some h
          obtain ⟨M30, e31, h⟩ := lt_some h
          refine wg_maste X (SMi hS 60 11 rfl) (SMl hS 60 8 rfl) z29 dX9_seen_127 e31 ?_
          refine wg_iload X 5 dX9_seen_128 rfl ?_
          exact wg_iret X ⟨(Prod.mk.inj (sm_inj h)).1, rfl, (Prod.mk.inj (sm_inj h)).2⟩ hr dX9_seen_130
      · have h := if_f c7 h
        refine wg_iload X 5 dX9_seen_39 rfl ?_
        refine wg_if_ne X 54 dX9_seen_41 (by decide) (fun c32 => ?_) (fun c32 => ?_)
        · have h := if_f c32 h
          refine wg_aload_n X 1 dX9_seen_54 rfl rfl ?_
          refine wg_iload_n X 2 dX9_seen_55 rfl rfl ?_
          refine wg_iload_n X 3 dX9_seen_56 rfl rfl ?_
          refine wg_iload_n X 4 dX9_seen_57 rfl rfl ?_
          obtain ⟨r34, M35, h33, h⟩ := bd2_some h
          refine wg_callVi (As := [.int p1, .int p2, .int p3]) (rest := []) X (c_X9_shiftsOf l E ad S hS N C M p1 p2 p3  h33) T_yX9_shiftsOf k_1229 cl9 (SMi hS 55 9 rfl) dX9_seen_58 rfl rfl (Nat.le_of_ble_eq_true rfl) ⟨Nat.le_of_ble_eq_true rfl, Nat.le_of_ble_eq_true rfl⟩ ⟨Nat.zero_le _, Nat.zero_le _⟩ ?_
          exact wg_iret X ⟨(Prod.mk.inj (sm_inj h)).1, rfl, (Prod.mk.inj (sm_inj h)).2⟩ hr dX9_seen_61
        · have h := if_t c32 h
          refine wg_aload_n X 1 dX9_seen_44 rfl rfl ?_
          refine wg_iload_n X 2 dX9_seen_45 rfl rfl ?_
          refine wg_iload_n X 3 dX9_seen_46 rfl rfl ?_
          refine wg_iload_n X 4 dX9_seen_47 rfl rfl ?_
          obtain ⟨r37, h36, h⟩ := bd_some h
          refine wg_callVi (As := [.int p1, .int p2, .int p3]) (rest := []) X (c_X9_wrongAt l E ad S hS N C M p1 p2 p3  h36) T_yX9_wrongAt k_1221 cl9 (SMi hS 55 9 rfl) dX9_seen_48 rfl rfl (Nat.le_of_ble_eq_true rfl) ⟨Nat.le_of_ble_eq_true rfl, Nat.le_of_ble_eq_true rfl⟩ ⟨Nat.zero_le _, Nat.zero_le _⟩ ?_
          refine wg_goto X 61 dX9_seen_51 (by decide) ?_
          exact wg_iret X ⟨(Prod.mk.inj (sm_inj h)).1, rfl, (Prod.mk.inj (sm_inj h)).2⟩ hr dX9_seen_61
    · have h := if_f c6 h
      refine wg_iload X 0 dX9_seen_30 rfl ?_
      exact wg_iret X ⟨(Prod.mk.inj (sm_inj h)).1, rfl, (Prod.mk.inj (sm_inj h)).2⟩ hr dX9_seen_32
  · have h := if_t c3 h
    refine wg_bipush (v := -2) X dX9_seen_13 (by decide) ?_
    exact wg_iret X ⟨(Prod.mk.inj (sm_inj h)).1, rfl, (Prod.mk.inj (sm_inj h)).2⟩ hr dX9_seen_15
-- WindowsGiveModel.unlikeOn(III)I (('c', 55), 'i', 'i', 'i')
def f_X9_unlikeOn_l14 (N : Nat)  (x1 : Int32) (x2 : Int32) (x3 : Int32) (x4 : Int32) (M : wg_M) (x5 : Int32) (x6 : Int32) : Option ((wg_M × Int32 × Int32) ⊕ (wg_M × Int32 × Int32)) :=
  if (19 : Int32) ≤ x6 then (
    some (.inr (M, x5, x6)))
  else (
    if ((x3 >>> (x6 &&& 31)) &&& (1 : Int32)) = (1 : Int32) then (
      ck (inb x1 8) <|
      lt_ (wg_sM M 62 x1.toNatClampNeg (x6 - (9 : Int32))) fun M9 =>
      bd (f_X9_shows M9 x1 x2) fun r12 =>
      lt_ (x5 ||| ((1 : Int32) <<< ((r12 + (1 : Int32)) &&& 31))) fun v13 =>
      lt_ (x6 + (1 : Int32)) fun v15 =>
      some (.inl (M9, v13, v15)))
    else (
      lt_ (x6 + (1 : Int32)) fun v6 =>
      some (.inl (M, x5, v6))))
def f_X9_unlikeOn (N : Nat) (M : wg_M) (p1 : Int32) (p2 : Int32) (p3 : Int32) : Option (Int32 × wg_M) :=
  ck (inb p1 8) <|
  lt_ (M.1 62 p1.toNatClampNeg) fun v2 =>
  bd3 (lp (fun o => f_X9_unlikeOn_l14 N  p1 p2 p3 v2 o.1 o.2.1 o.2.2) N (M, (0 : Int32), (0 : Int32))) fun M17 v18 v19 =>
  ck (inb p1 8) <|
  lt_ (wg_sM M17 62 p1.toNatClampNeg v2) fun M25 =>
  bd (f_X9_bitsOf N v18) fun r28 =>
  some (r28, M25)
abbrev G_X9_unlikeOn (p : Program) (l : Launch) (e : Env) (s : State) (m : MethodId) (args : Array Value) (below : List Frame) (meth : Method) (c : Code) (E : wg_Ev) (ad : Nat → Nat) (S : wg_Sh) (r0 : Int32) (C0 : wg_C) (M0 : wg_M) (pc : Nat) (C : wg_C) (M : wg_M) (lv : List (Nat × Value)) (st : List Value) : Prop := wg_G p l e (wg_Rm 4 91) s m args below meth c (MQ below (wg_Qi E ad S r0 C0 M0) args s 0 0 (wg_A E)) 7 E ad S 0 0 pc C M lv st
set_option maxHeartbeats 4000000 in
set_option maxRecDepth 100000 in
theorem L_X9_unlikeOn_l14 {p : Program} {l : Launch} {e : Env} {s : State} {m : MethodId} {args : Array Value} {below : List Frame} {meth : Method} {c : Code} {E : wg_Ev} {ad : Nat → Nat} {S : wg_Sh} (X : wg_X p s m args meth c cX9_unlikeOn 7 RX9 E) (hr : meth.sig.returnType = (some .int)) (hS : wg_SM S) (r0 : Int32) (D0 : wg_M) (C : wg_C) (N : Nat)   (x1 : Int32) (x2 : Int32) (x3 : Int32) (x4 : Int32)  : ∀ (n : Nat) (M : wg_M) (x5 : Int32) (x6 : Int32) (o : (wg_M × Int32 × Int32)), lp (fun o => f_X9_unlikeOn_l14 N  x1 x2 x3 x4 o.1 o.2.1 o.2.2) n (M, x5, x6) = some o → (∀ (Dy : wg_M) (y5 : Int32) (y6 : Int32), o = (Dy, y5, y6) → G_X9_unlikeOn p l e s m args below meth c E ad S r0 C D0 63 C Dy [(0, .ref (ad 55)), (1, .int x1), (2, .int x2), (3, .int x3), (4, .int x4), (5, .int y5), (6, .int y6)] []) → G_X9_unlikeOn p l e s m args below meth c E ad S r0 C D0 14 C M [(0, .ref (ad 55)), (1, .int x1), (2, .int x2), (3, .int x3), (4, .int x4), (5, .int x5), (6, .int x6)] [] := by
  intro n
  induction n with
  | zero => exact fun _ _ _ o h => (lp_zero h).elim
  | succ n ih =>
    intro M x5 x6 o h K
    obtain ⟨o1, hb, h2⟩ := lp_some h
    replace hb : f_X9_unlikeOn_l14 N  x1 x2 x3 x4 M x5 x6 = some o1 := hb
    clear h
    have Kc : ∀ (Dy : wg_M) (y5 : Int32) (y6 : Int32), o1 = Sum.inl (Dy, y5, y6) → G_X9_unlikeOn p l e s m args below meth c E ad S r0 C D0 14 C Dy [(0, .ref (ad 55)), (1, .int x1), (2, .int x2), (3, .int x3), (4, .int x4), (5, .int y5), (6, .int y6)] [] := fun Dy y5 y6 e1 => by
      subst e1
      exact ih Dy y5 y6 o h2 K
    have Ke : ∀ (Dy : wg_M) (y5 : Int32) (y6 : Int32), o1 = Sum.inr ((Dy, y5, y6)) → G_X9_unlikeOn p l e s m args below meth c E ad S r0 C D0 63 C Dy [(0, .ref (ad 55)), (1, .int x1), (2, .int x2), (3, .int x3), (4, .int x4), (5, .int y5), (6, .int y6)] [] := fun Dy y5 y6 e1 => by
      subst e1
      exact K Dy y5 y6 (sm_inj (α := (wg_M × Int32 × Int32)) h2).symm
    clear ih K h2
    unfold f_X9_unlikeOn_l14 at hb
    have h := hb
    clear hb
    refine wg_iload X 6 dX9_unlikeOn_14 rfl ?_
    refine wg_bipush (v := 19) X dX9_unlikeOn_16 (by decide) ?_
    refine wg_icmp_ge X 63 dX9_unlikeOn_18 (by decide) (fun c4 => ?_) (fun c4 => ?_)
    · have h := if_t c4 h
      exact Ke M x5 x6 (sm_inj h).symm
    · have h := if_f c4 h
      refine wg_iload_n X 3 dX9_unlikeOn_21 rfl rfl ?_
      refine wg_iload X 6 dX9_unlikeOn_22 rfl ?_
      refine wg_ishr X dX9_unlikeOn_24 ?_
      refine wg_iconst (v := 1) X dX9_unlikeOn_25 (by decide) ?_
      refine wg_iand X dX9_unlikeOn_26 ?_
      refine wg_iconst (v := 1) X dX9_unlikeOn_27 (by decide) ?_
      refine wg_icmp_ne X 57 dX9_unlikeOn_28 (by decide) (fun c5 => ?_) (fun c5 => ?_)
      · have h := if_f c5 h
        obtain ⟨v6, e7, h⟩ := lt_some h
        refine wg_iinc (lv' := [(6, .int v6), (0, .ref (ad 55)), (1, .int x1), (2, .int x2), (3, .int x3), (4, .int x4), (5, .int x5)]) X 6 dX9_unlikeOn_57 rfl e7 (by decide) rfl ?_
        refine wg_goto X 14 dX9_unlikeOn_60 (by decide) ?_
        refine wg_pick [1, 2, 3, 4, 5, 6, 0] (lv' := [(0, .ref (ad 55)), (1, .int x1), (2, .int x2), (3, .int x3), (4, .int x4), (5, .int x5), (6, .int v6)]) rfl ?_
        exact Kc M x5 v6 (sm_inj h).symm
      · have h := if_t c5 h
        refine wg_aload_n X 0 dX9_unlikeOn_31 rfl rfl ?_
        refine wg_getR (b := 62) X cl9 (SMi hS 55 9 rfl) 10 (by decide) dX9_unlikeOn_32 k_892 rfl (SMr hS 10 62 rfl) ?_
        refine wg_iload_n X 1 dX9_unlikeOn_35 rfl rfl ?_
        refine wg_iload X 6 dX9_unlikeOn_36 rfl ?_
        refine wg_bipush (v := 9) X dX9_unlikeOn_38 (by decide) ?_
        refine wg_isub X dX9_unlikeOn_40 ?_
        obtain ⟨z8, h⟩ := ck_some h
        obtain ⟨M9, e10, h⟩ := lt_some h
        refine wg_maste X (SMi hS 62 11 rfl) (SMl hS 62 8 rfl) z8 dX9_unlikeOn_41 e10 ?_
        refine wg_iload X 5 dX9_unlikeOn_42 rfl ?_
        refine wg_iconst (v := 1) X dX9_unlikeOn_44 (by decide) ?_
        refine wg_aload_n X 0 dX9_unlikeOn_45 rfl rfl ?_
        refine wg_iload_n X 1 dX9_unlikeOn_46 rfl rfl ?_
        refine wg_iload_n X 2 dX9_unlikeOn_47 rfl rfl ?_
        obtain ⟨r12, h11, h⟩ := bd_some h
        refine wg_callVi (As := [.int x1, .int x2]) (rest := [.int (1 : Int32), .int x5]) X (c_X9_shows l E ad S hS C M9 x1 x2  h11) T_yX9_shows k_1225 cl9 (SMi hS 55 9 rfl) dX9_unlikeOn_48 rfl rfl (Nat.le_of_ble_eq_true rfl) ⟨Nat.le_of_ble_eq_true rfl, Nat.le_of_ble_eq_true rfl⟩ ⟨Nat.zero_le _, Nat.zero_le _⟩ ?_
        refine wg_iconst (v := 1) X dX9_unlikeOn_51 (by decide) ?_
        refine wg_iadd X dX9_unlikeOn_52 ?_
        refine wg_ishl X dX9_unlikeOn_53 ?_
        refine wg_ior X dX9_unlikeOn_54 ?_
        obtain ⟨v13, e14, h⟩ := lt_some h
        refine wg_istore (lv' := [(5, .int v13), (0, .ref (ad 55)), (1, .int x1), (2, .int x2), (3, .int x3), (4, .int x4), (6, .int x6)]) X dX9_unlikeOn_55 e14 (by decide) rfl ?_
        obtain ⟨v15, e16, h⟩ := lt_some h
        refine wg_iinc (lv' := [(6, .int v15), (5, .int v13), (0, .ref (ad 55)), (1, .int x1), (2, .int x2), (3, .int x3), (4, .int x4)]) X 6 dX9_unlikeOn_57 rfl e16 (by decide) rfl ?_
        refine wg_goto X 14 dX9_unlikeOn_60 (by decide) ?_
        refine wg_pick [2, 3, 4, 5, 6, 1, 0] (lv' := [(0, .ref (ad 55)), (1, .int x1), (2, .int x2), (3, .int x3), (4, .int x4), (5, .int v13), (6, .int v15)]) rfl ?_
        exact Kc M9 v13 v15 (sm_inj h).symm
set_option maxHeartbeats 4000000 in
set_option maxRecDepth 100000 in
theorem c_X9_unlikeOn (l : Launch) (E : wg_Ev) (ad : Nat → Nat) (S : wg_Sh) (hS : wg_SM S) (N : Nat) (C : wg_C) (M : wg_M) (p1 : Int32) (p2 : Int32) (p3 : Int32)  {r0 : Int32} {D0 : wg_M} (h : f_X9_unlikeOn N M p1 p2 p3 = some (r0, D0)) : wg_Ci l yX9_unlikeOn cX9_unlikeOn 7 (some .int) 4 91 E ad S C M [.ref (ad 55), .int p1, .int p2, .int p3] r0 C D0 := by
  refine wg_start (own := RX9) (by decide +kernel) rfl (Nat.le_of_ble_eq_true rfl) ?_
  intro p e s m below meth c X hr hnm
  refine wg_lv (lv' := [(0, .ref (ad 55)), (1, .int p1), (2, .int p2), (3, .int p3)]) rfl ?_
  unfold f_X9_unlikeOn at h
  refine wg_aload_n X 0 dX9_unlikeOn_0 rfl rfl ?_
  refine wg_getR (b := 62) X cl9 (SMi hS 55 9 rfl) 10 (by decide) dX9_unlikeOn_1 k_892 rfl (SMr hS 10 62 rfl) ?_
  refine wg_iload_n X 1 dX9_unlikeOn_4 rfl rfl ?_
  obtain ⟨z1, h⟩ := ck_some h
  refine wg_mald X (SMi hS 62 11 rfl) (SMl hS 62 8 rfl) z1 dX9_unlikeOn_5 ?_
  obtain ⟨v2, e3, h⟩ := lt_some h
  refine wg_istore (lv' := [(4, .int v2), (0, .ref (ad 55)), (1, .int p1), (2, .int p2), (3, .int p3)]) X dX9_unlikeOn_6 e3 (by decide) rfl ?_
  refine wg_iconst (v := 0) X dX9_unlikeOn_8 (by decide) ?_
  refine wg_istore (lv' := [(5, .int (0 : Int32)), (4, .int v2), (0, .ref (ad 55)), (1, .int p1), (2, .int p2), (3, .int p3)]) X dX9_unlikeOn_9 rfl (by decide) rfl ?_
  refine wg_iconst (v := 0) X dX9_unlikeOn_11 (by decide) ?_
  refine wg_istore (lv' := [(6, .int (0 : Int32)), (5, .int (0 : Int32)), (4, .int v2), (0, .ref (ad 55)), (1, .int p1), (2, .int p2), (3, .int p3)]) X dX9_unlikeOn_12 rfl (by decide) rfl ?_
  obtain ⟨o20, h21, h⟩ := bd3_o h
  refine wg_pick [3, 4, 5, 6, 2, 1, 0] (lv' := [(0, .ref (ad 55)), (1, .int p1), (2, .int p2), (3, .int p3), (4, .int v2), (5, .int (0 : Int32)), (6, .int (0 : Int32))]) rfl ?_
  refine L_X9_unlikeOn_l14 X hr hS r0 D0 C N   p1 p2 p3 v2  N M (0 : Int32) (0 : Int32) o20 h21 (fun M17 v18 v19 e23 => ?_)
  · subst o20
    replace h := bd3_in h
    refine wg_aload_n X 0 dX9_unlikeOn_63 rfl rfl ?_
    refine wg_getR (b := 62) X cl9 (SMi hS 55 9 rfl) 10 (by decide) dX9_unlikeOn_64 k_892 rfl (SMr hS 10 62 rfl) ?_
    refine wg_iload_n X 1 dX9_unlikeOn_67 rfl rfl ?_
    refine wg_iload X 4 dX9_unlikeOn_68 rfl ?_
    obtain ⟨z24, h⟩ := ck_some h
    obtain ⟨M25, e26, h⟩ := lt_some h
    refine wg_maste X (SMi hS 62 11 rfl) (SMl hS 62 8 rfl) z24 dX9_unlikeOn_70 e26 ?_
    refine wg_iload X 5 dX9_unlikeOn_71 rfl ?_
    obtain ⟨r28, h27, h⟩ := bd_some h
    refine wg_callSi (As := [.int v18]) (rest := []) X (c_X9_bitsOf l E ad S N C M25 v18  h27) T_yX9_bitsOf k_1206 dX9_unlikeOn_73 rfl rfl (Nat.le_of_ble_eq_true rfl) ⟨Nat.le_of_ble_eq_true rfl, Nat.le_of_ble_eq_true rfl⟩ ⟨Nat.zero_le _, Nat.zero_le _⟩ ?_
    exact wg_iret X ⟨(Prod.mk.inj (sm_inj h)).1, rfl, (Prod.mk.inj (sm_inj h)).2⟩ hr dX9_unlikeOn_76
-- WindowsGiveModel.lookNext(IIII)I (('c', 55), 'i', 'i', 'i', 'i')
def f_X9_lookNext_l49 (N : Nat)  (x2 : Int32) (x4 : Int32) (x6 : Int32) (M : wg_M) (x7 : Int32) (x8 : Int32) (x9 : Int32) : Option ((wg_M × Int32 × Int32 × Int32) ⊕ (wg_M × Int32 × Int32 × Int32)) :=
  if (32 : Int32) ≤ x9 then (
    some (.inr (M, x7, x8, x9)))
  else (
    bd2 (f_X9_unlikeOn N M x2 x9 x6) fun r12 M13 =>
    if r12 ≤ x8 then (
      lt_ (x9 + (1 : Int32)) fun v15 =>
      some (.inl (M13, x7, x8, v15)))
    else (
      lt_ (x9 + (1 : Int32)) fun v17 =>
      some (.inl (M13, x9, r12, v17))))
def f_X9_lookNext (N : Nat) (M : wg_M) (p1 : Int32) (p2 : Int32) (p3 : Int32) (p4 : Int32) : Option (Int32 × wg_M) :=
  bd (f_X9_in p4.toInt64 (0 : Int64) (1 : Int64)) fun r2 =>
  if r2 = 0 then (
    some ((-2 : Int32), M))
  else (
    bd (f_X9_seenBad M p1 p2 p3) fun r5 =>
    if r5 = 0 then (
      bd2 (f_X9_shiftsOf N M p1 p2 p3) fun r8 M9 =>
      bd4 (lp (fun o => f_X9_lookNext_l49 N  p2 p4 r8 o.1 o.2.1 o.2.2.1 o.2.2.2) N (M9, (0 : Int32), (0 : Int32), (0 : Int32))) fun M19 v20 v21 v22 =>
      if p4 = 0 then (
        some (v20, M19))
      else (
        some (v21, M19)))
    else (
      some (r5, M)))
abbrev G_X9_lookNext (p : Program) (l : Launch) (e : Env) (s : State) (m : MethodId) (args : Array Value) (below : List Frame) (meth : Method) (c : Code) (E : wg_Ev) (ad : Nat → Nat) (S : wg_Sh) (r0 : Int32) (C0 : wg_C) (M0 : wg_M) (pc : Nat) (C : wg_C) (M : wg_M) (lv : List (Nat × Value)) (st : List Value) : Prop := wg_G p l e (wg_Rm 6 141) s m args below meth c (MQ below (wg_Qi E ad S r0 C0 M0) args s 0 0 (wg_A E)) 11 E ad S 0 0 pc C M lv st
set_option maxHeartbeats 4000000 in
set_option maxRecDepth 100000 in
theorem L_X9_lookNext_l49 {p : Program} {l : Launch} {e : Env} {s : State} {m : MethodId} {args : Array Value} {below : List Frame} {meth : Method} {c : Code} {E : wg_Ev} {ad : Nat → Nat} {S : wg_Sh} (X : wg_X p s m args meth c cX9_lookNext 11 RX9 E) (hr : meth.sig.returnType = (some .int)) (hS : wg_SM S) (r0 : Int32) (D0 : wg_M) (C : wg_C) (N : Nat)   (x2 : Int32) (x4 : Int32) (x6 : Int32)  : ∀ (n : Nat) (M : wg_M) (x7 : Int32) (x8 : Int32) (x9 : Int32) (o : (wg_M × Int32 × Int32 × Int32)), lp (fun o => f_X9_lookNext_l49 N  x2 x4 x6 o.1 o.2.1 o.2.2.1 o.2.2.2) n (M, x7, x8, x9) = some o → (∀ (Dy : wg_M) (y7 : Int32) (y8 : Int32) (y9 : Int32), o = (Dy, y7, y8, y9) → G_X9_lookNext p l e s m args below meth c E ad S r0 C D0 88 C Dy [(0, .ref (ad 55)), (2, .int x2), (4, .int x4), (6, .int x6), (7, .int y7), (8, .int y8), (9, .int y9)] []) → G_X9_lookNext p l e s m args below meth c E ad S r0 C D0 49 C M [(0, .ref (ad 55)), (2, .int x2), (4, .int x4), (6, .int x6), (7, .int x7), (8, .int x8), (9, .int x9)] [] := by
  intro n
  induction n with
  | zero => exact fun _ _ _ _ o h => (lp_zero h).elim
  | succ n ih =>
    intro M x7 x8 x9 o h K
    obtain ⟨o1, hb, h2⟩ := lp_some h
    replace hb : f_X9_lookNext_l49 N  x2 x4 x6 M x7 x8 x9 = some o1 := hb
    clear h
    have Kc : ∀ (Dy : wg_M) (y7 : Int32) (y8 : Int32) (y9 : Int32), o1 = Sum.inl (Dy, y7, y8, y9) → G_X9_lookNext p l e s m args below meth c E ad S r0 C D0 49 C Dy [(0, .ref (ad 55)), (2, .int x2), (4, .int x4), (6, .int x6), (7, .int y7), (8, .int y8), (9, .int y9)] [] := fun Dy y7 y8 y9 e1 => by
      subst e1
      exact ih Dy y7 y8 y9 o h2 K
    have Ke : ∀ (Dy : wg_M) (y7 : Int32) (y8 : Int32) (y9 : Int32), o1 = Sum.inr ((Dy, y7, y8, y9)) → G_X9_lookNext p l e s m args below meth c E ad S r0 C D0 88 C Dy [(0, .ref (ad 55)), (2, .int x2), (4, .int x4), (6, .int x6), (7, .int y7), (8, .int y8), (9, .int y9)] [] := fun Dy y7 y8 y9 e1 => by
      subst e1
      exact K Dy y7 y8 y9 (sm_inj (α := (wg_M × Int32 × Int32 × Int32)) h2).symm
    clear ih K h2
    unfold f_X9_lookNext_l49 at hb
    have h := hb
    clear hb
    refine wg_iload X 6 dX9_lookNext_49 rfl ?_
    refine wg_bipush (v := 32) X dX9_lookNext_51 (by decide) ?_
    refine wg_icmp_ge X 88 dX9_lookNext_53 (by decide) (fun c10 => ?_) (fun c10 => ?_)
    · have h := if_t c10 h
      exact Ke M x7 x8 x9 (sm_inj h).symm
    · have h := if_f c10 h
      refine wg_aload_n X 0 dX9_lookNext_56 rfl rfl ?_
      refine wg_iload_n X 1 dX9_lookNext_57 rfl rfl ?_
      refine wg_iload X 6 dX9_lookNext_58 rfl ?_
      refine wg_iload X 3 dX9_lookNext_60 rfl ?_
      obtain ⟨r12, M13, h11, h⟩ := bd2_some h
      refine wg_callVi (As := [.int x2, .int x9, .int x6]) (rest := []) X (c_X9_unlikeOn l E ad S hS N C M x2 x9 x6  h11) T_yX9_unlikeOn k_1237 cl9 (SMi hS 55 9 rfl) dX9_lookNext_62 rfl rfl (Nat.le_of_ble_eq_true rfl) ⟨Nat.le_of_ble_eq_true rfl, Nat.le_of_ble_eq_true rfl⟩ ⟨Nat.zero_le _, Nat.zero_le _⟩ ?_
      refine wg_istore (lv' := [(10, .int r12), (0, .ref (ad 55)), (2, .int x2), (4, .int x4), (6, .int x6), (7, .int x7), (8, .int x8), (9, .int x9)]) X dX9_lookNext_65 rfl (by decide) rfl ?_
      refine wg_iload X 0 dX9_lookNext_67 rfl ?_
      refine wg_iload X 6 dX9_lookNext_69 rfl ?_
      refine wg_icmp_le X 82 dX9_lookNext_71 (by decide) (fun c14 => ?_) (fun c14 => ?_)
      · have h := if_t c14 h
        obtain ⟨v15, e16, h⟩ := lt_some h
        refine wg_iinc (lv' := [(9, .int v15), (10, .int r12), (0, .ref (ad 55)), (2, .int x2), (4, .int x4), (6, .int x6), (7, .int x7), (8, .int x8)]) X 7 dX9_lookNext_82 rfl e16 (by decide) rfl ?_
        refine wg_goto X 49 dX9_lookNext_85 (by decide) ?_
        refine wg_pick [2, 3, 4, 5, 6, 7, 0] (lv' := [(0, .ref (ad 55)), (2, .int x2), (4, .int x4), (6, .int x6), (7, .int x7), (8, .int x8), (9, .int v15)]) rfl ?_
        exact Kc M13 x7 x8 v15 (sm_inj h).symm
      · have h := if_f c14 h
        refine wg_iload X 7 dX9_lookNext_74 rfl ?_
        refine wg_istore (lv' := [(7, .int x9), (10, .int r12), (0, .ref (ad 55)), (2, .int x2), (4, .int x4), (6, .int x6), (8, .int x8), (9, .int x9)]) X dX9_lookNext_76 rfl (by decide) rfl ?_
        refine wg_iload X 1 dX9_lookNext_78 rfl ?_
        refine wg_istore (lv' := [(8, .int r12), (7, .int x9), (10, .int r12), (0, .ref (ad 55)), (2, .int x2), (4, .int x4), (6, .int x6), (9, .int x9)]) X dX9_lookNext_80 rfl (by decide) rfl ?_
        obtain ⟨v17, e18, h⟩ := lt_some h
        refine wg_iinc (lv' := [(9, .int v17), (8, .int r12), (7, .int x9), (10, .int r12), (0, .ref (ad 55)), (2, .int x2), (4, .int x4), (6, .int x6)]) X 7 dX9_lookNext_82 rfl e18 (by decide) rfl ?_
        refine wg_goto X 49 dX9_lookNext_85 (by decide) ?_
        refine wg_pick [4, 5, 6, 7, 2, 1, 0] (lv' := [(0, .ref (ad 55)), (2, .int x2), (4, .int x4), (6, .int x6), (7, .int x9), (8, .int r12), (9, .int v17)]) rfl ?_
        exact Kc M13 x9 r12 v17 (sm_inj h).symm
set_option maxHeartbeats 4000000 in
set_option maxRecDepth 100000 in
theorem c_X9_lookNext (l : Launch) (E : wg_Ev) (ad : Nat → Nat) (S : wg_Sh) (hS : wg_SM S) (N : Nat) (C : wg_C) (M : wg_M) (p1 : Int32) (p2 : Int32) (p3 : Int32) (p4 : Int32)  {r0 : Int32} {D0 : wg_M} (h : f_X9_lookNext N M p1 p2 p3 p4 = some (r0, D0)) : wg_Ci l yX9_lookNext cX9_lookNext 11 (some .int) 6 141 E ad S C M [.ref (ad 55), .int p1, .int p2, .int p3, .int p4] r0 C D0 := by
  refine wg_start (own := RX9) (by decide +kernel) rfl (Nat.le_of_ble_eq_true rfl) ?_
  intro p e s m below meth c X hr hnm
  refine wg_lv (lv' := [(0, .ref (ad 55)), (1, .int p1), (2, .int p2), (3, .int p3), (4, .int p4)]) rfl ?_
  unfold f_X9_lookNext at h
  refine wg_iload X 4 dX9_lookNext_0 rfl ?_
  refine wg_i2l X dX9_lookNext_2 ?_
  refine wg_lconst (v := 0) X dX9_lookNext_3 (by decide) ?_
  refine wg_lconst (v := 1) X dX9_lookNext_4 (by decide) ?_
  obtain ⟨r2, h1, h⟩ := bd_some h
  refine wg_callSi (As := [.long (p4.toInt64), .long (0 : Int64), .long (1 : Int64)]) (rest := []) X (c_X9_in l E ad S C M p4.toInt64 (0 : Int64) (1 : Int64)  h1) T_yX9_in k_1021 dX9_lookNext_5 rfl rfl (Nat.le_of_ble_eq_true rfl) ⟨Nat.le_of_ble_eq_true rfl, Nat.le_of_ble_eq_true rfl⟩ ⟨Nat.zero_le _, Nat.zero_le _⟩ ?_
  refine wg_if_ne X 14 dX9_lookNext_8 (by decide) (fun c3 => ?_) (fun c3 => ?_)
  · have h := if_f c3 h
    refine wg_aload_n X 0 dX9_lookNext_14 rfl rfl ?_
    refine wg_iload_n X 1 dX9_lookNext_15 rfl rfl ?_
    refine wg_iload_n X 2 dX9_lookNext_16 rfl rfl ?_
    refine wg_iload_n X 3 dX9_lookNext_17 rfl rfl ?_
    obtain ⟨r5, h4, h⟩ := bd_some h
    refine wg_callVi (As := [.int p1, .int p2, .int p3]) (rest := []) X (c_X9_seenBad l E ad S hS C M p1 p2 p3  h4) T_yX9_seenBad k_1213 cl9 (SMi hS 55 9 rfl) dX9_lookNext_18 rfl rfl (Nat.le_of_ble_eq_true rfl) ⟨Nat.le_of_ble_eq_true rfl, Nat.le_of_ble_eq_true rfl⟩ ⟨Nat.zero_le _, Nat.zero_le _⟩ ?_
    refine wg_istore (lv' := [(5, .int r5), (0, .ref (ad 55)), (1, .int p1), (2, .int p2), (3, .int p3), (4, .int p4)]) X dX9_lookNext_21 rfl (by decide) rfl ?_
    refine wg_iload X 0 dX9_lookNext_23 rfl ?_
    refine wg_if_eq X 31 dX9_lookNext_25 (by decide) (fun c6 => ?_) (fun c6 => ?_)
    · have h := if_t c6 h
      refine wg_aload_n X 1 dX9_lookNext_31 rfl rfl ?_
      refine wg_iload_n X 2 dX9_lookNext_32 rfl rfl ?_
      refine wg_iload_n X 3 dX9_lookNext_33 rfl rfl ?_
      refine wg_iload_n X 4 dX9_lookNext_34 rfl rfl ?_
      obtain ⟨r8, M9, h7, h⟩ := bd2_some h
      refine wg_callVi (As := [.int p1, .int p2, .int p3]) (rest := []) X (c_X9_shiftsOf l E ad S hS N C M p1 p2 p3  h7) T_yX9_shiftsOf k_1229 cl9 (SMi hS 55 9 rfl) dX9_lookNext_35 rfl rfl (Nat.le_of_ble_eq_true rfl) ⟨Nat.le_of_ble_eq_true rfl, Nat.le_of_ble_eq_true rfl⟩ ⟨Nat.zero_le _, Nat.zero_le _⟩ ?_
      refine wg_istore (lv' := [(6, .int r8), (5, .int r5), (0, .ref (ad 55)), (1, .int p1), (2, .int p2), (3, .int p3), (4, .int p4)]) X dX9_lookNext_38 rfl (by decide) rfl ?_
      refine wg_iconst (v := 0) X dX9_lookNext_40 (by decide) ?_
      refine wg_istore (lv' := [(7, .int (0 : Int32)), (6, .int r8), (5, .int r5), (0, .ref (ad 55)), (1, .int p1), (2, .int p2), (3, .int p3), (4, .int p4)]) X dX9_lookNext_41 rfl (by decide) rfl ?_
      refine wg_iconst (v := 0) X dX9_lookNext_43 (by decide) ?_
      refine wg_istore (lv' := [(8, .int (0 : Int32)), (7, .int (0 : Int32)), (6, .int r8), (5, .int r5), (0, .ref (ad 55)), (1, .int p1), (2, .int p2), (3, .int p3), (4, .int p4)]) X dX9_lookNext_44 rfl (by decide) rfl ?_
      refine wg_iconst (v := 0) X dX9_lookNext_46 (by decide) ?_
      refine wg_istore (lv' := [(9, .int (0 : Int32)), (8, .int (0 : Int32)), (7, .int (0 : Int32)), (6, .int r8), (5, .int r5), (0, .ref (ad 55)), (1, .int p1), (2, .int p2), (3, .int p3), (4, .int p4)]) X dX9_lookNext_47 rfl (by decide) rfl ?_
      obtain ⟨o23, h24, h⟩ := bd4_o h
      refine wg_pick [5, 7, 9, 3, 2, 1, 0] (lv' := [(0, .ref (ad 55)), (2, .int p2), (4, .int p4), (6, .int r8), (7, .int (0 : Int32)), (8, .int (0 : Int32)), (9, .int (0 : Int32))]) rfl ?_
      refine L_X9_lookNext_l49 X hr hS r0 D0 C N   p2 p4 r8  N M9 (0 : Int32) (0 : Int32) (0 : Int32) o23 h24 (fun M19 v20 v21 v22 e26 => ?_)
      · subst o23
        replace h := bd4_in h
        refine wg_iload X 2 dX9_lookNext_88 rfl ?_
        refine wg_if_ne X 98 dX9_lookNext_90 (by decide) (fun c27 => ?_) (fun c27 => ?_)
        · have h := if_f c27 h
          refine wg_iload X 5 dX9_lookNext_98 rfl ?_
          exact wg_iret X ⟨(Prod.mk.inj (sm_inj h)).1, rfl, (Prod.mk.inj (sm_inj h)).2⟩ hr dX9_lookNext_100
        · have h := if_t c27 h
          refine wg_iload X 4 dX9_lookNext_93 rfl ?_
          refine wg_goto X 100 dX9_lookNext_95 (by decide) ?_
          exact wg_iret X ⟨(Prod.mk.inj (sm_inj h)).1, rfl, (Prod.mk.inj (sm_inj h)).2⟩ hr dX9_lookNext_100
    · have h := if_f c6 h
      refine wg_iload X 0 dX9_lookNext_28 rfl ?_
      exact wg_iret X ⟨(Prod.mk.inj (sm_inj h)).1, rfl, (Prod.mk.inj (sm_inj h)).2⟩ hr dX9_lookNext_30
  · have h := if_t c3 h
    refine wg_bipush (v := -2) X dX9_lookNext_11 (by decide) ?_
    exact wg_iret X ⟨(Prod.mk.inj (sm_inj h)).1, rfl, (Prod.mk.inj (sm_inj h)).2⟩ hr dX9_lookNext_13
-- WindowsGiveModel.sheet(III)I (('c', 55), 'i', 'i', 'i')
def f_X9_sheet_l77 (N : Nat)  (x1 : Int32) (x2 : Int32) (x3 : Int32) (M : wg_M) (x4 : Int32) : Option ((wg_M × Int32) ⊕ (wg_M × Int32)) :=
  if x3 ≤ x4 then (
    some (.inr (M, x4)))
  else (
    if x2 < 0 then (
      some (.inr (M, x4)))
    else (
      ck (inb (((40 : Int32) * x1) + x4) 160) <|
      lt_ (wg_sM M 74 (((40 : Int32) * x1) + x4).toNatClampNeg (0 : Int32)) fun M22 =>
      lt_ (x4 + (1 : Int32)) fun v24 =>
      some (.inl (M22, v24))))
def f_X9_sheet_j59 (N : Nat) (M : wg_M)  (x1 : Int32) (x2 : Int32) (x3 : Int32) (s0 : Int32) (s1 : Int32) : Option (Int32 × wg_M) :=
  ck (inb s1 4) <|
  lt_ (wg_sM M 71 s1.toNatClampNeg (vp_nar .boolean s0)) fun M11 =>
  ck (inb x1 4) <|
  lt_ (wg_sM M11 72 x1.toNatClampNeg x2) fun M14 =>
  ck (inb x1 4) <|
  lt_ (wg_sM M14 73 x1.toNatClampNeg x3) fun M17 =>
  bd2 (lp (fun o => f_X9_sheet_l77 N  x1 x2 x3 o.1 o.2) N (M17, (0 : Int32))) fun M26 v27 =>
  some ((1 : Int32), M26)
def f_X9_sheet_j45 (N : Nat) (M : wg_M)  (x1 : Int32) (x2 : Int32) (x3 : Int32) : Option (Int32 × wg_M) :=
  if x2 < 0 then (
    f_X9_sheet_j59 N M  x1 x2 x3 (0 : Int32) x1)
  else (
    f_X9_sheet_j59 N M  x1 x2 x3 (1 : Int32) x1)
def f_X9_sheet_j34 (N : Nat) (M : wg_M)  (x1 : Int32) (x2 : Int32) (x3 : Int32) : Option (Int32 × wg_M) :=
  if x2 < 0 then (
    f_X9_sheet_j45 N M  x1 x2 x3)
  else (
    if 0 ≤ x3 then (
      f_X9_sheet_j45 N M  x1 x2 x3)
    else (
      some ((-14 : Int32), M)))
def f_X9_sheet (N : Nat) (M : wg_M) (p1 : Int32) (p2 : Int32) (p3 : Int32) : Option (Int32 × wg_M) :=
  bd (f_X9_isSheet p1) fun r2 =>
  if r2 = 0 then (
    some ((-2 : Int32), M))
  else (
    bd (f_X9_in p2.toInt64 (-1 : Int64) (2 : Int64)) fun r5 =>
    if r5 = 0 then (
      some ((-2 : Int32), M))
    else (
      if p2 < 0 then (
        f_X9_sheet_j34 N M  p1 p2 p3)
      else (
        if p3 ≤ (40 : Int32) then (
          f_X9_sheet_j34 N M  p1 p2 p3)
        else (
          some ((-2 : Int32), M)))))
abbrev G_X9_sheet (p : Program) (l : Launch) (e : Env) (s : State) (m : MethodId) (args : Array Value) (below : List Frame) (meth : Method) (c : Code) (E : wg_Ev) (ad : Nat → Nat) (S : wg_Sh) (r0 : Int32) (C0 : wg_C) (M0 : wg_M) (pc : Nat) (C : wg_C) (M : wg_M) (lv : List (Nat × Value)) (st : List Value) : Prop := wg_G p l e (wg_Rm 2 45) s m args below meth c (MQ below (wg_Qi E ad S r0 C0 M0) args s 0 0 (wg_A E)) 5 E ad S 0 0 pc C M lv st
set_option maxHeartbeats 4000000 in
set_option maxRecDepth 100000 in
theorem L_X9_sheet_l77 {p : Program} {l : Launch} {e : Env} {s : State} {m : MethodId} {args : Array Value} {below : List Frame} {meth : Method} {c : Code} {E : wg_Ev} {ad : Nat → Nat} {S : wg_Sh} (X : wg_X p s m args meth c cX9_sheet 5 RX9 E) (hr : meth.sig.returnType = (some .int)) (hS : wg_SM S) (r0 : Int32) (D0 : wg_M) (C : wg_C) (N : Nat)   (x1 : Int32) (x2 : Int32) (x3 : Int32)  : ∀ (n : Nat) (M : wg_M) (x4 : Int32) (o : (wg_M × Int32)), lp (fun o => f_X9_sheet_l77 N  x1 x2 x3 o.1 o.2) n (M, x4) = some o → (∀ (Dy : wg_M) (y4 : Int32), o = (Dy, y4) → G_X9_sheet p l e s m args below meth c E ad S r0 C D0 106 C Dy [(0, .ref (ad 55)), (1, .int x1), (2, .int x2), (3, .int x3), (4, .int y4)] []) → G_X9_sheet p l e s m args below meth c E ad S r0 C D0 77 C M [(0, .ref (ad 55)), (1, .int x1), (2, .int x2), (3, .int x3), (4, .int x4)] [] := by
  intro n
  induction n with
  | zero => exact fun _ _ o h => (lp_zero h).elim
  | succ n ih =>
    intro M x4 o h K
    obtain ⟨o1, hb, h2⟩ := lp_some h
    replace hb : f_X9_sheet_l77 N  x1 x2 x3 M x4 = some o1 := hb
    clear h
    have Kc : ∀ (Dy : wg_M) (y4 : Int32), o1 = Sum.inl (Dy, y4) → G_X9_sheet p l e s m args below meth c E ad S r0 C D0 77 C Dy [(0, .ref (ad 55)), (1, .int x1), (2, .int x2), (3, .int x3), (4, .int y4)] [] := fun Dy y4 e1 => by
      subst e1
      exact ih Dy y4 o h2 K
    have Ke : ∀ (Dy : wg_M) (y4 : Int32), o1 = Sum.inr ((Dy, y4)) → G_X9_sheet p l e s m args below meth c E ad S r0 C D0 106 C Dy [(0, .ref (ad 55)), (1, .int x1), (2, .int x2), (3, .int x3), (4, .int y4)] [] := fun Dy y4 e1 => by
      subst e1
      exact K Dy y4 (sm_inj (α := (wg_M × Int32)) h2).symm
    clear ih K h2
    unfold f_X9_sheet_l77 at hb
    have h := hb
    clear hb
    refine wg_iload X 4 dX9_sheet_77 rfl ?_
    refine wg_iload_n X 3 dX9_sheet_79 rfl rfl ?_
    refine wg_icmp_ge X 106 dX9_sheet_80 (by decide) (fun c19 => ?_) (fun c19 => ?_)
    · have h := if_t c19 h
      exact Ke M x4 (sm_inj h).symm
    · have h := if_f c19 h
      refine wg_iload_n X 2 dX9_sheet_83 rfl rfl ?_
      refine wg_if_lt X 106 dX9_sheet_84 (by decide) (fun c20 => ?_) (fun c20 => ?_)
      · have h := if_t c20 h
        exact Ke M x4 (sm_inj h).symm
      · have h := if_f c20 h
        refine wg_aload_n X 0 dX9_sheet_87 rfl rfl ?_
        refine wg_getR (b := 74) X cl9 (SMi hS 55 9 rfl) 43 (by decide) dX9_sheet_88 k_925 rfl (SMr hS 43 74 rfl) ?_
        refine wg_bipush (v := 40) X dX9_sheet_91 (by decide) ?_
        refine wg_iload_n X 1 dX9_sheet_93 rfl rfl ?_
        refine wg_imul X dX9_sheet_94 ?_
        refine wg_iload X 4 dX9_sheet_95 rfl ?_
        refine wg_iadd X dX9_sheet_97 ?_
        refine wg_iconst (v := 0) X dX9_sheet_98 (by decide) ?_
        obtain ⟨z21, h⟩ := ck_some h
        obtain ⟨M22, e23, h⟩ := lt_some h
        refine wg_maste X (SMi hS 74 11 rfl) (SMl hS 74 160 rfl) z21 dX9_sheet_99 e23 ?_
        obtain ⟨v24, e25, h⟩ := lt_some h
        refine wg_iinc (lv' := [(4, .int v24), (0, .ref (ad 55)), (1, .int x1), (2, .int x2), (3, .int x3)]) X 4 dX9_sheet_100 rfl e25 (by decide) rfl ?_
        refine wg_goto X 77 dX9_sheet_103 (by decide) ?_
        refine wg_pick [1, 2, 3, 4, 0] (lv' := [(0, .ref (ad 55)), (1, .int x1), (2, .int x2), (3, .int x3), (4, .int v24)]) rfl ?_
        exact Kc M22 v24 (sm_inj h).symm
set_option maxHeartbeats 4000000 in
set_option maxRecDepth 100000 in
theorem J_X9_sheet_j59 {p : Program} {l : Launch} {e : Env} {s : State} {m : MethodId} {args : Array Value} {below : List Frame} {meth : Method} {c : Code} {E : wg_Ev} {ad : Nat → Nat} {S : wg_Sh} (X : wg_X p s m args meth c cX9_sheet 5 RX9 E) (hr : meth.sig.returnType = (some .int)) (hS : wg_SM S) (r0 : Int32) (D0 : wg_M) (C : wg_C) (N : Nat)  (M : wg_M)  (x1 : Int32) (x2 : Int32) (x3 : Int32) (s0 : Int32) (s1 : Int32)   (h : f_X9_sheet_j59 N M  x1 x2 x3 s0 s1 = some (r0, D0)) : G_X9_sheet p l e s m args below meth c E ad S r0 C D0 59 C M [(0, .ref (ad 55)), (1, .int x1), (2, .int x2), (3, .int x3)] [.int s0, .int s1, .ref (ad 71)] := by
  unfold f_X9_sheet_j59 at h
  obtain ⟨z10, h⟩ := ck_some h
  obtain ⟨M11, e12, h⟩ := lt_some h
  refine wg_zaste X (SMi hS 71 12 rfl) (SMl hS 71 4 rfl) z10 dX9_sheet_59 e12 ?_
  refine wg_aload_n X 0 dX9_sheet_60 rfl rfl ?_
  refine wg_getR (b := 72) X cl9 (SMi hS 55 9 rfl) 41 (by decide) dX9_sheet_61 k_923 rfl (SMr hS 41 72 rfl) ?_
  refine wg_iload_n X 1 dX9_sheet_64 rfl rfl ?_
  refine wg_iload_n X 2 dX9_sheet_65 rfl rfl ?_
  obtain ⟨z13, h⟩ := ck_some h
  obtain ⟨M14, e15, h⟩ := lt_some h
  refine wg_maste X (SMi hS 72 11 rfl) (SMl hS 72 4 rfl) z13 dX9_sheet_66 e15 ?_
  refine wg_aload_n X 0 dX9_sheet_67 rfl rfl ?_
  refine wg_getR (b := 73) X cl9 (SMi hS 55 9 rfl) 42 (by decide) dX9_sheet_68 k_924 rfl (SMr hS 42 73 rfl) ?_
  refine wg_iload_n X 1 dX9_sheet_71 rfl rfl ?_
  refine wg_iload_n X 3 dX9_sheet_72 rfl rfl ?_
  obtain ⟨z16, h⟩ := ck_some h
  obtain ⟨M17, e18, h⟩ := lt_some h
  refine wg_maste X (SMi hS 73 11 rfl) (SMl hS 73 4 rfl) z16 dX9_sheet_73 e18 ?_
  refine wg_iconst (v := 0) X dX9_sheet_74 (by decide) ?_
  refine wg_istore (lv' := [(4, .int (0 : Int32)), (0, .ref (ad 55)), (1, .int x1), (2, .int x2), (3, .int x3)]) X dX9_sheet_75 rfl (by decide) rfl ?_
  obtain ⟨o28, h29, h⟩ := bd2_o h
  refine wg_pick [1, 2, 3, 4, 0] (lv' := [(0, .ref (ad 55)), (1, .int x1), (2, .int x2), (3, .int x3), (4, .int (0 : Int32))]) rfl ?_
  refine L_X9_sheet_l77 X hr hS r0 D0 C N   x1 x2 x3  N M17 (0 : Int32) o28 h29 (fun M26 v27 e31 => ?_)
  · subst o28
    replace h := bd2_in h
    refine wg_iconst (v := 1) X dX9_sheet_106 (by decide) ?_
    exact wg_iret X ⟨(Prod.mk.inj (sm_inj h)).1, rfl, (Prod.mk.inj (sm_inj h)).2⟩ hr dX9_sheet_107
set_option maxHeartbeats 4000000 in
set_option maxRecDepth 100000 in
theorem J_X9_sheet_j45 {p : Program} {l : Launch} {e : Env} {s : State} {m : MethodId} {args : Array Value} {below : List Frame} {meth : Method} {c : Code} {E : wg_Ev} {ad : Nat → Nat} {S : wg_Sh} (X : wg_X p s m args meth c cX9_sheet 5 RX9 E) (hr : meth.sig.returnType = (some .int)) (hS : wg_SM S) (r0 : Int32) (D0 : wg_M) (C : wg_C) (N : Nat)  (M : wg_M)  (x1 : Int32) (x2 : Int32) (x3 : Int32)   (h : f_X9_sheet_j45 N M  x1 x2 x3 = some (r0, D0)) : G_X9_sheet p l e s m args below meth c E ad S r0 C D0 45 C M [(0, .ref (ad 55)), (1, .int x1), (2, .int x2), (3, .int x3)] [] := by
  unfold f_X9_sheet_j45 at h
  refine wg_aload_n X 0 dX9_sheet_45 rfl rfl ?_
  refine wg_getR (b := 71) X cl9 (SMi hS 55 9 rfl) 40 (by decide) dX9_sheet_46 k_922 rfl (SMr hS 40 71 rfl) ?_
  refine wg_iload_n X 1 dX9_sheet_49 rfl rfl ?_
  refine wg_iload_n X 2 dX9_sheet_50 rfl rfl ?_
  refine wg_if_lt X 58 dX9_sheet_51 (by decide) (fun c9 => ?_) (fun c9 => ?_)
  · have h := if_t c9 h
    refine wg_iconst (v := 0) X dX9_sheet_58 (by decide) ?_
    exact J_X9_sheet_j59 X hr hS r0 D0 C N  M  x1 x2 x3 (0 : Int32) x1   h
  · have h := if_f c9 h
    refine wg_iconst (v := 1) X dX9_sheet_54 (by decide) ?_
    refine wg_goto X 59 dX9_sheet_55 (by decide) ?_
    exact J_X9_sheet_j59 X hr hS r0 D0 C N  M  x1 x2 x3 (1 : Int32) x1   h
set_option maxHeartbeats 4000000 in
set_option maxRecDepth 100000 in
theorem J_X9_sheet_j34 {p : Program} {l : Launch} {e : Env} {s : State} {m : MethodId} {args : Array Value} {below : List Frame} {meth : Method} {c : Code} {E : wg_Ev} {ad : Nat → Nat} {S : wg_Sh} (X : wg_X p s m args meth c cX9_sheet 5 RX9 E) (hr : meth.sig.returnType = (some .int)) (hS : wg_SM S) (r0 : Int32) (D0 : wg_M) (C : wg_C) (N : Nat)  (M : wg_M)  (x1 : Int32) (x2 : Int32) (x3 : Int32)   (h : f_X9_sheet_j34 N M  x1 x2 x3 = some (r0, D0)) : G_X9_sheet p l e s m args below meth c E ad S r0 C D0 34 C M [(0, .ref (ad 55)), (1, .int x1), (2, .int x2), (3, .int x3)] [] := by
  unfold f_X9_sheet_j34 at h
  refine wg_iload_n X 2 dX9_sheet_34 rfl rfl ?_
  refine wg_if_lt X 45 dX9_sheet_35 (by decide) (fun c8 => ?_) (fun c8 => ?_)
  · have h := if_t c8 h
    exact J_X9_sheet_j45 X hr hS r0 D0 C N  M  x1 x2 x3   h
  · have h := if_f c8 h
    refine wg_iload_n X 3 dX9_sheet_38 rfl rfl ?_
    refine wg_if_ge X 45 dX9_sheet_39 (by decide) (fun c32 => ?_) (fun c32 => ?_)
    · have h := if_t c32 h
      exact J_X9_sheet_j45 X hr hS r0 D0 C N  M  x1 x2 x3   h
    · have h := if_f c32 h
      refine wg_bipush (v := -14) X dX9_sheet_42 (by decide) ?_
      exact wg_iret X ⟨(Prod.mk.inj (sm_inj h)).1, rfl, (Prod.mk.inj (sm_inj h)).2⟩ hr dX9_sheet_44
set_option maxHeartbeats 4000000 in
set_option maxRecDepth 100000 in
theorem c_X9_sheet (l : Launch) (E : wg_Ev) (ad : Nat → Nat) (S : wg_Sh) (hS : wg_SM S) (N : Nat) (C : wg_C) (M : wg_M) (p1 : Int32) (p2 : Int32) (p3 : Int32)  {r0 : Int32} {D0 : wg_M} (h : f_X9_sheet N M p1 p2 p3 = some (r0, D0)) : wg_Ci l yX9_sheet cX9_sheet 5 (some .int) 2 45 E ad S C M [.ref (ad 55), .int p1, .int p2, .int p3] r0 C D0 := by
  refine wg_start (own := RX9) (by decide +kernel) rfl (Nat.le_of_ble_eq_true rfl) ?_
  intro p e s m below meth c X hr hnm
  refine wg_lv (lv' := [(0, .ref (ad 55)), (1, .int p1), (2, .int p2), (3, .int p3)]) rfl ?_
  unfold f_X9_sheet at h
  refine wg_iload_n X 1 dX9_sheet_0 rfl rfl ?_
  obtain ⟨r2, h1, h⟩ := bd_some h
  refine wg_callSi (As := [.int p1]) (rest := []) X (c_X9_isSheet l E ad S C M p1  h1) T_yX9_isSheet k_1217 dX9_sheet_1 rfl rfl (Nat.le_of_ble_eq_true rfl) ⟨Nat.le_of_ble_eq_true rfl, Nat.le_of_ble_eq_true rfl⟩ ⟨Nat.zero_le _, Nat.zero_le _⟩ ?_
  refine wg_if_eq X 31 dX9_sheet_4 (by decide) (fun c3 => ?_) (fun c3 => ?_)
  · have h := if_t c3 h
    refine wg_bipush (v := -2) X dX9_sheet_31 (by decide) ?_
    exact wg_iret X ⟨(Prod.mk.inj (sm_inj h)).1, rfl, (Prod.mk.inj (sm_inj h)).2⟩ hr dX9_sheet_33
  · have h := if_f c3 h
    refine wg_iload_n X 2 dX9_sheet_7 rfl rfl ?_
    refine wg_i2l X dX9_sheet_8 ?_
    refine wg_ldc2 (v := -1) X dX9_sheet_9 k_1249 ?_
    refine wg_ldc2 (v := 2) X dX9_sheet_12 k_1061 ?_
    obtain ⟨r5, h4, h⟩ := bd_some h
    refine wg_callSi (As := [.long (p2.toInt64), .long (-1 : Int64), .long (2 : Int64)]) (rest := []) X (c_X9_in l E ad S C M p2.toInt64 (-1 : Int64) (2 : Int64)  h4) T_yX9_in k_1021 dX9_sheet_15 rfl rfl (Nat.le_of_ble_eq_true rfl) ⟨Nat.le_of_ble_eq_true rfl, Nat.le_of_ble_eq_true rfl⟩ ⟨Nat.zero_le _, Nat.zero_le _⟩ ?_
    refine wg_if_eq X 31 dX9_sheet_18 (by decide) (fun c6 => ?_) (fun c6 => ?_)
    · have h := if_t c6 h
      refine wg_bipush (v := -2) X dX9_sheet_31 (by decide) ?_
      exact wg_iret X ⟨(Prod.mk.inj (sm_inj h)).1, rfl, (Prod.mk.inj (sm_inj h)).2⟩ hr dX9_sheet_33
    · have h := if_f c6 h
      refine wg_iload_n X 2 dX9_sheet_21 rfl rfl ?_
      refine wg_if_lt X 34 dX9_sheet_22 (by decide) (fun c7 => ?_) (fun c7 => ?_)
      · have h := if_t c7 h
        exact J_X9_sheet_j34 X hr hS r0 D0 C N  M  p1 p2 p3   h
      · have h := if_f c7 h
        refine wg_iload_n X 3 dX9_sheet_25 rfl rfl ?_
        refine wg_bipush (v := 40) X dX9_sheet_26 (by decide) ?_
        refine wg_icmp_le X 34 dX9_sheet_28 (by decide) (fun c33 => ?_) (fun c33 => ?_)
        · have h := if_t c33 h
          exact J_X9_sheet_j34 X hr hS r0 D0 C N  M  p1 p2 p3   h
        · have h := if_f c33 h
          refine wg_bipush (v := -2) X dX9_sheet_31 (by decide) ?_
          exact wg_iret X ⟨(Prod.mk.inj (sm_inj h)).1, rfl, (Prod.mk.inj (sm_inj h)).2⟩ hr dX9_sheet_33
-- WindowsGiveModel.film(IIII)I (('c', 55), 'i', 'i', 'i', 'i')
def f_X9_film_l50 (N : Nat)  (x1 : Int32) (x2 : Int32) (x3 : Int32) (x4 : Int32) (M : wg_M) (x5 : Int32) : Option ((wg_M × Int32) ⊕ (wg_M × Int32)) :=
  if x4 ≤ x5 then (
    some (.inr (M, x5)))
  else (
    bd (f_X9_shows M x2 (x3 + x5)) fun r18 =>
    ck (inb (((40 : Int32) * x1) + x5) 160) <|
    lt_ (wg_sM M 74 (((40 : Int32) * x1) + x5).toNatClampNeg r18) fun M20 =>
    lt_ (x5 + (1 : Int32)) fun v22 =>
    some (.inl (M20, v22)))
def f_X9_film (N : Nat) (M : wg_M) (p1 : Int32) (p2 : Int32) (p3 : Int32) (p4 : Int32) : Option (Int32 × wg_M) :=
  bd (f_X9_isSheet p1) fun r2 =>
  if r2 = 0 then (
    some ((-2 : Int32), M))
  else (
    bd (f_X9_isPane M p2) fun r5 =>
    if r5 = 0 then (
      some ((-2 : Int32), M))
    else (
      bd (f_X9_isDay p3) fun r8 =>
      if r8 = 0 then (
        some ((-2 : Int32), M))
      else (
        bd (f_X9_in p4.toInt64 (0 : Int64) (10 : Int64)) fun r11 =>
        if r11 = 0 then (
          some ((-2 : Int32), M))
        else (
          bd2 (f_X9_sheet N M p1 (0 : Int32) p4) fun r14 M15 =>
          bd2 (lp (fun o => f_X9_film_l50 N  p1 p2 p3 p4 o.1 o.2) N (M15, (0 : Int32))) fun M24 v25 =>
          some (p4, M24)))))
abbrev G_X9_film (p : Program) (l : Launch) (e : Env) (s : State) (m : MethodId) (args : Array Value) (below : List Frame) (meth : Method) (c : Code) (E : wg_Ev) (ad : Nat → Nat) (S : wg_Sh) (r0 : Int32) (C0 : wg_C) (M0 : wg_M) (pc : Nat) (C : wg_C) (M : wg_M) (lv : List (Nat × Value)) (st : List Value) : Prop := wg_G p l e (wg_Rm 4 91) s m args below meth c (MQ below (wg_Qi E ad S r0 C0 M0) args s 0 0 (wg_A E)) 6 E ad S 0 0 pc C M lv st
set_option maxHeartbeats 4000000 in
set_option maxRecDepth 100000 in
theorem L_X9_film_l50 {p : Program} {l : Launch} {e : Env} {s : State} {m : MethodId} {args : Array Value} {below : List Frame} {meth : Method} {c : Code} {E : wg_Ev} {ad : Nat → Nat} {S : wg_Sh} (X : wg_X p s m args meth c cX9_film 6 RX9 E) (hr : meth.sig.returnType = (some .int)) (hS : wg_SM S) (r0 : Int32) (D0 : wg_M) (C : wg_C) (N : Nat)   (x1 : Int32) (x2 : Int32) (x3 : Int32) (x4 : Int32)  : ∀ (n : Nat) (M : wg_M) (x5 : Int32) (o : (wg_M × Int32)), lp (fun o => f_X9_film_l50 N  x1 x2 x3 x4 o.1 o.2) n (M, x5) = some o → (∀ (Dy : wg_M) (y5 : Int32), o = (Dy, y5) → G_X9_film p l e s m args below meth c E ad S r0 C D0 84 C Dy [(0, .ref (ad 55)), (1, .int x1), (2, .int x2), (3, .int x3), (4, .int x4), (5, .int y5)] []) → G_X9_film p l e s m args below meth c E ad S r0 C D0 50 C M [(0, .ref (ad 55)), (1, .int x1), (2, .int x2), (3, .int x3), (4, .int x4), (5, .int x5)] [] := by
  intro n
  induction n with
  | zero => exact fun _ _ o h => (lp_zero h).elim
  | succ n ih =>
    intro M x5 o h K
    obtain ⟨o1, hb, h2⟩ := lp_some h
    replace hb : f_X9_film_l50 N  x1 x2 x3 x4 M x5 = some o1 := hb
    clear h
    have Kc : ∀ (Dy : wg_M) (y5 : Int32), o1 = Sum.inl (Dy, y5) → G_X9_film p l e s m args below meth c E ad S r0 C D0 50 C Dy [(0, .ref (ad 55)), (1, .int x1), (2, .int x2), (3, .int x3), (4, .int x4), (5, .int y5)] [] := fun Dy y5 e1 => by
      subst e1
      exact ih Dy y5 o h2 K
    have Ke : ∀ (Dy : wg_M) (y5 : Int32), o1 = Sum.inr ((Dy, y5)) → G_X9_film p l e s m args below meth c E ad S r0 C D0 84 C Dy [(0, .ref (ad 55)), (1, .int x1), (2, .int x2), (3, .int x3), (4, .int x4), (5, .int y5)] [] := fun Dy y5 e1 => by
      subst e1
      exact K Dy y5 (sm_inj (α := (wg_M × Int32)) h2).symm
    clear ih K h2
    unfold f_X9_film_l50 at hb
    have h := hb
    clear hb
    refine wg_iload X 5 dX9_film_50 rfl ?_
    refine wg_iload X 4 dX9_film_52 rfl ?_
    refine wg_icmp_ge X 84 dX9_film_54 (by decide) (fun c16 => ?_) (fun c16 => ?_)
    · have h := if_t c16 h
      exact Ke M x5 (sm_inj h).symm
    · have h := if_f c16 h
      refine wg_aload_n X 0 dX9_film_57 rfl rfl ?_
      refine wg_getR (b := 74) X cl9 (SMi hS 55 9 rfl) 43 (by decide) dX9_film_58 k_925 rfl (SMr hS 43 74 rfl) ?_
      refine wg_bipush (v := 40) X dX9_film_61 (by decide) ?_
      refine wg_iload_n X 1 dX9_film_63 rfl rfl ?_
      refine wg_imul X dX9_film_64 ?_
      refine wg_iload X 5 dX9_film_65 rfl ?_
      refine wg_iadd X dX9_film_67 ?_
      refine wg_aload_n X 0 dX9_film_68 rfl rfl ?_
      refine wg_iload_n X 2 dX9_film_69 rfl rfl ?_
      refine wg_iload_n X 3 dX9_film_70 rfl rfl ?_
      refine wg_iload X 5 dX9_film_71 rfl ?_
      refine wg_iadd X dX9_film_73 ?_
      obtain ⟨r18, h17, h⟩ := bd_some h
      refine wg_callVi (As := [.int x2, .int (x3 + x5)]) (rest := [.int (((40 : Int32) * x1) + x5), .ref (ad 74)]) X (c_X9_shows l E ad S hS C M x2 (x3 + x5)  h17) T_yX9_shows k_1225 cl9 (SMi hS 55 9 rfl) dX9_film_74 rfl rfl (Nat.le_of_ble_eq_true rfl) ⟨Nat.le_of_ble_eq_true rfl, Nat.le_of_ble_eq_true rfl⟩ ⟨Nat.zero_le _, Nat.zero_le _⟩ ?_
      obtain ⟨z19, h⟩ := ck_some h
      obtain ⟨M20, e21, h⟩ := lt_some h
      refine wg_maste X (SMi hS 74 11 rfl) (SMl hS 74 160 rfl) z19 dX9_film_77 e21 ?_
      obtain ⟨v22, e23, h⟩ := lt_some h
      refine wg_iinc (lv' := [(5, .int v22), (0, .ref (ad 55)), (1, .int x1), (2, .int x2), (3, .int x3), (4, .int x4)]) X 5 dX9_film_78 rfl e23 (by decide) rfl ?_
      refine wg_goto X 50 dX9_film_81 (by decide) ?_
      refine wg_pick [1, 2, 3, 4, 5, 0] (lv' := [(0, .ref (ad 55)), (1, .int x1), (2, .int x2), (3, .int x3), (4, .int x4), (5, .int v22)]) rfl ?_
      exact Kc M20 v22 (sm_inj h).symm
set_option maxHeartbeats 4000000 in
set_option maxRecDepth 100000 in
theorem c_X9_film (l : Launch) (E : wg_Ev) (ad : Nat → Nat) (S : wg_Sh) (hS : wg_SM S) (N : Nat) (C : wg_C) (M : wg_M) (p1 : Int32) (p2 : Int32) (p3 : Int32) (p4 : Int32)  {r0 : Int32} {D0 : wg_M} (h : f_X9_film N M p1 p2 p3 p4 = some (r0, D0)) : wg_Ci l yX9_film cX9_film 6 (some .int) 4 91 E ad S C M [.ref (ad 55), .int p1, .int p2, .int p3, .int p4] r0 C D0 := by
  refine wg_start (own := RX9) (by decide +kernel) rfl (Nat.le_of_ble_eq_true rfl) ?_
  intro p e s m below meth c X hr hnm
  refine wg_lv (lv' := [(0, .ref (ad 55)), (1, .int p1), (2, .int p2), (3, .int p3), (4, .int p4)]) rfl ?_
  unfold f_X9_film at h
  refine wg_iload_n X 1 dX9_film_0 rfl rfl ?_
  obtain ⟨r2, h1, h⟩ := bd_some h
  refine wg_callSi (As := [.int p1]) (rest := []) X (c_X9_isSheet l E ad S C M p1  h1) T_yX9_isSheet k_1217 dX9_film_1 rfl rfl (Nat.le_of_ble_eq_true rfl) ⟨Nat.le_of_ble_eq_true rfl, Nat.le_of_ble_eq_true rfl⟩ ⟨Nat.zero_le _, Nat.zero_le _⟩ ?_
  refine wg_if_eq X 35 dX9_film_4 (by decide) (fun c3 => ?_) (fun c3 => ?_)
  · have h := if_t c3 h
    refine wg_bipush (v := -2) X dX9_film_35 (by decide) ?_
    exact wg_iret X ⟨(Prod.mk.inj (sm_inj h)).1, rfl, (Prod.mk.inj (sm_inj h)).2⟩ hr dX9_film_37
  · have h := if_f c3 h
    refine wg_aload_n X 0 dX9_film_7 rfl rfl ?_
    refine wg_iload_n X 2 dX9_film_8 rfl rfl ?_
    obtain ⟨r5, h4, h⟩ := bd_some h
    refine wg_callVi (As := [.int p2]) (rest := []) X (c_X9_isPane l E ad S hS C M p2  h4) T_yX9_isPane k_1028 cl9 (SMi hS 55 9 rfl) dX9_film_9 rfl rfl (Nat.le_of_ble_eq_true rfl) ⟨Nat.le_of_ble_eq_true rfl, Nat.le_of_ble_eq_true rfl⟩ ⟨Nat.zero_le _, Nat.zero_le _⟩ ?_
    refine wg_if_eq X 35 dX9_film_12 (by decide) (fun c6 => ?_) (fun c6 => ?_)
    · have h := if_t c6 h
      refine wg_bipush (v := -2) X dX9_film_35 (by decide) ?_
      exact wg_iret X ⟨(Prod.mk.inj (sm_inj h)).1, rfl, (Prod.mk.inj (sm_inj h)).2⟩ hr dX9_film_37
    · have h := if_f c6 h
      refine wg_iload_n X 3 dX9_film_15 rfl rfl ?_
      obtain ⟨r8, h7, h⟩ := bd_some h
      refine wg_callSi (As := [.int p3]) (rest := []) X (c_X9_isDay l E ad S C M p3  h7) T_yX9_isDay k_1024 dX9_film_16 rfl rfl (Nat.le_of_ble_eq_true rfl) ⟨Nat.le_of_ble_eq_true rfl, Nat.le_of_ble_eq_true rfl⟩ ⟨Nat.zero_le _, Nat.zero_le _⟩ ?_
      refine wg_if_eq X 35 dX9_film_19 (by decide) (fun c9 => ?_) (fun c9 => ?_)
      · have h := if_t c9 h
        refine wg_bipush (v := -2) X dX9_film_35 (by decide) ?_
        exact wg_iret X ⟨(Prod.mk.inj (sm_inj h)).1, rfl, (Prod.mk.inj (sm_inj h)).2⟩ hr dX9_film_37
      · have h := if_f c9 h
        refine wg_iload X 4 dX9_film_22 rfl ?_
        refine wg_i2l X dX9_film_24 ?_
        refine wg_lconst (v := 0) X dX9_film_25 (by decide) ?_
        refine wg_ldc2 (v := 10) X dX9_film_26 k_1095 ?_
        obtain ⟨r11, h10, h⟩ := bd_some h
        refine wg_callSi (As := [.long (p4.toInt64), .long (0 : Int64), .long (10 : Int64)]) (rest := []) X (c_X9_in l E ad S C M p4.toInt64 (0 : Int64) (10 : Int64)  h10) T_yX9_in k_1021 dX9_film_29 rfl rfl (Nat.le_of_ble_eq_true rfl) ⟨Nat.le_of_ble_eq_true rfl, Nat.le_of_ble_eq_true rfl⟩ ⟨Nat.zero_le _, Nat.zero_le _⟩ ?_
        refine wg_if_ne X 38 dX9_film_32 (by decide) (fun c12 => ?_) (fun c12 => ?_)
        · have h := if_f c12 h
          refine wg_aload_n X 0 dX9_film_38 rfl rfl ?_
          refine wg_iload_n X 1 dX9_film_39 rfl rfl ?_
          refine wg_iconst (v := 0) X dX9_film_40 (by decide) ?_
          refine wg_iload X 4 dX9_film_41 rfl ?_
          obtain ⟨r14, M15, h13, h⟩ := bd2_some h
          refine wg_callVi (As := [.int p1, .int (0 : Int32), .int p4]) (rest := []) X (c_X9_sheet l E ad S hS N C M p1 (0 : Int32) p4  h13) T_yX9_sheet k_1245 cl9 (SMi hS 55 9 rfl) dX9_film_43 rfl rfl (Nat.le_of_ble_eq_true rfl) ⟨Nat.le_of_ble_eq_true rfl, Nat.le_of_ble_eq_true rfl⟩ ⟨Nat.zero_le _, Nat.zero_le _⟩ ?_
          refine wg_pop X dX9_film_46 rfl ?_
          refine wg_iconst (v := 0) X dX9_film_47 (by decide) ?_
          refine wg_istore (lv' := [(5, .int (0 : Int32)), (0, .ref (ad 55)), (1, .int p1), (2, .int p2), (3, .int p3), (4, .int p4)]) X dX9_film_48 rfl (by decide) rfl ?_
          obtain ⟨o26, h27, h⟩ := bd2_o h
          refine wg_pick [1, 2, 3, 4, 5, 0] (lv' := [(0, .ref (ad 55)), (1, .int p1), (2, .int p2), (3, .int p3), (4, .int p4), (5, .int (0 : Int32))]) rfl ?_
          refine L_X9_film_l50 X hr hS r0 D0 C N   p1 p2 p3 p4  N M15 (0 : Int32) o26 h27 (fun M24 v25 e29 => ?_)
          · subst o26
            replace h := bd2_in h
            refine wg_iload X 4 dX9_film_84 rfl ?_
            exact wg_iret X ⟨(Prod.mk.inj (sm_inj h)).1, rfl, (Prod.mk.inj (sm_inj h)).2⟩ hr dX9_film_86
        · have h := if_t c12 h
          refine wg_bipush (v := -2) X dX9_film_35 (by decide) ?_
          exact wg_iret X ⟨(Prod.mk.inj (sm_inj h)).1, rfl, (Prod.mk.inj (sm_inj h)).2⟩ hr dX9_film_37
-- WindowsGiveModel.rains(I)V (('c', 55), 'i')
def f_X9_rains_l2 (N : Nat)  (x1 : Int32) (M : wg_M) (x2 : Int32) : Option ((wg_M × Int32) ⊕ (wg_M × Int32)) :=
  if (32 : Int32) ≤ x2 then (
    some (.inr (M, x2)))
  else (
    ck (inb x2 32) <|
    lt_ (wg_sM M 67 x2.toNatClampNeg (0 : Int32)) fun M3 =>
    lt_ (x2 + (1 : Int32)) fun v5 =>
    some (.inl (M3, v5)))
def f_X9_rains_l33 (N : Nat)  (x1 : Int32) (x2 : Int32) (M : wg_M) (x3 : Int32) : Option ((wg_M × Int32) ⊕ (wg_M × Int32)) :=
  if (32 : Int32) ≤ x3 then (
    some (.inr (M, x3)))
  else (
    bd (f_X9_leads M x2) fun r16 =>
    if r16 = x1 then (
      bd (f_X9_passes M x2 x3 (2 : Int32)) fun r21 =>
      if r21 = 0 then (
        lt_ (x3 + (1 : Int32)) fun v23 =>
        some (.inl (M, v23)))
      else (
        bd (f_X9_on M x2 x3) fun r26 =>
        ck (inb r26 32) <|
        bd2 (f_X9_says N M (1 : Int32) x2 x3) fun r29 M30 =>
        ck (inb r26 32) <|
        lt_ (wg_sM M30 67 r26.toNatClampNeg ((M.1 67 r26.toNatClampNeg) + r29)) fun M32 =>
        lt_ (x3 + (1 : Int32)) fun v34 =>
        some (.inl (M32, v34))))
    else (
      lt_ (x3 + (1 : Int32)) fun v18 =>
      some (.inl (M, v18))))
def f_X9_rains_l23 (N : Nat)  (x1 : Int32) (M : wg_M) (x2 : Int32) : Option ((wg_M × Int32) ⊕ (wg_M × Int32)) :=
  if (M.1 55 13) ≤ x2 then (
    some (.inr (M, x2)))
  else (
    bd2 (lp (fun o => f_X9_rains_l33 N  x1 x2 o.1 o.2) N (M, (0 : Int32))) fun M36 v37 =>
    lt_ (x2 + (1 : Int32)) fun v42 =>
    some (.inl (M36, v42)))
def f_X9_rains (N : Nat) (M : wg_M) (p1 : Int32) : Option wg_M :=
  bd2 (lp (fun o => f_X9_rains_l2 N  p1 o.1 o.2) N (M, (0 : Int32))) fun M7 v8 =>
  bd2 (lp (fun o => f_X9_rains_l23 N  p1 o.1 o.2) N (M7, (0 : Int32))) fun M44 v45 =>
  some M44
abbrev G_X9_rains (p : Program) (l : Launch) (e : Env) (s : State) (m : MethodId) (args : Array Value) (below : List Frame) (meth : Method) (c : Code) (E : wg_Ev) (ad : Nat → Nat) (S : wg_Sh) (C0 : wg_C) (M0 : wg_M) (pc : Nat) (C : wg_C) (M : wg_M) (lv : List (Nat × Value)) (st : List Value) : Prop := wg_G p l e (wg_Rm 76 2953) s m args below meth c (MQ below (wg_Qv E ad S C0 M0) args s 0 0 (wg_A E)) 4 E ad S 0 0 pc C M lv st
set_option maxHeartbeats 4000000 in
set_option maxRecDepth 100000 in
theorem L_X9_rains_l2 {p : Program} {l : Launch} {e : Env} {s : State} {m : MethodId} {args : Array Value} {below : List Frame} {meth : Method} {c : Code} {E : wg_Ev} {ad : Nat → Nat} {S : wg_Sh} (X : wg_X p s m args meth c cX9_rains 4 RX9 E) (hr : meth.sig.returnType = none) (hS : wg_SM S) (D0 : wg_M) (C : wg_C) (N : Nat)   (x1 : Int32)  : ∀ (n : Nat) (M : wg_M) (x2 : Int32) (o : (wg_M × Int32)), lp (fun o => f_X9_rains_l2 N  x1 o.1 o.2) n (M, x2) = some o → (∀ (Dy : wg_M) (y2 : Int32), o = (Dy, y2) → G_X9_rains p l e s m args below meth c E ad S C D0 21 C Dy [(0, .ref (ad 55)), (1, .int x1), (2, .int y2)] []) → G_X9_rains p l e s m args below meth c E ad S C D0 2 C M [(0, .ref (ad 55)), (1, .int x1), (2, .int x2)] [] := by
  intro n
  induction n with
  | zero => exact fun _ _ o h => (lp_zero h).elim
  | succ n ih =>
    intro M x2 o h K
    obtain ⟨o1, hb, h2⟩ := lp_some h
    replace hb : f_X9_rains_l2 N  x1 M x2 = some o1 := hb
    clear h
    have Kc : ∀ (Dy : wg_M) (y2 : Int32), o1 = Sum.inl (Dy, y2) → G_X9_rains p l e s m args below meth c E ad S C D0 2 C Dy [(0, .ref (ad 55)), (1, .int x1), (2, .int y2)] [] := fun Dy y2 e1 => by
      subst e1
      exact ih Dy y2 o h2 K
    have Ke : ∀ (Dy : wg_M) (y2 : Int32), o1 = Sum.inr ((Dy, y2)) → G_X9_rains p l e s m args below meth c E ad S C D0 21 C Dy [(0, .ref (ad 55)), (1, .int x1), (2, .int y2)] [] := fun Dy y2 e1 => by
      subst e1
      exact K Dy y2 (sm_inj (α := (wg_M × Int32)) h2).symm
    clear ih K h2
    unfold f_X9_rains_l2 at hb
    have h := hb
    clear hb
    refine wg_iload_n X 2 dX9_rains_2 rfl rfl ?_
    refine wg_bipush (v := 32) X dX9_rains_3 (by decide) ?_
    refine wg_icmp_ge X 21 dX9_rains_5 (by decide) (fun c1 => ?_) (fun c1 => ?_)
    · have h := if_t c1 h
      exact Ke M x2 (sm_inj h).symm
    · have h := if_f c1 h
      refine wg_aload_n X 0 dX9_rains_8 rfl rfl ?_
      refine wg_getR (b := 67) X cl9 (SMi hS 55 9 rfl) 32 (by decide) dX9_rains_9 k_914 rfl (SMr hS 32 67 rfl) ?_
      refine wg_iload_n X 2 dX9_rains_12 rfl rfl ?_
      refine wg_iconst (v := 0) X dX9_rains_13 (by decide) ?_
      obtain ⟨z2, h⟩ := ck_some h
      obtain ⟨M3, e4, h⟩ := lt_some h
      refine wg_maste X (SMi hS 67 11 rfl) (SMl hS 67 32 rfl) z2 dX9_rains_14 e4 ?_
      obtain ⟨v5, e6, h⟩ := lt_some h
      refine wg_iinc (lv' := [(2, .int v5), (0, .ref (ad 55)), (1, .int x1)]) X 2 dX9_rains_15 rfl e6 (by decide) rfl ?_
      refine wg_goto X 2 dX9_rains_18 (by decide) ?_
      refine wg_pick [1, 2, 0] (lv' := [(0, .ref (ad 55)), (1, .int x1), (2, .int v5)]) rfl ?_
      exact Kc M3 v5 (sm_inj h).symm
set_option maxHeartbeats 4000000 in
set_option maxRecDepth 100000 in
theorem L_X9_rains_l33 {p : Program} {l : Launch} {e : Env} {s : State} {m : MethodId} {args : Array Value} {below : List Frame} {meth : Method} {c : Code} {E : wg_Ev} {ad : Nat → Nat} {S : wg_Sh} (X : wg_X p s m args meth c cX9_rains 4 RX9 E) (hr : meth.sig.returnType = none) (hS : wg_SM S) (D0 : wg_M) (C : wg_C) (N : Nat)   (x1 : Int32) (x2 : Int32)  : ∀ (n : Nat) (M : wg_M) (x3 : Int32) (o : (wg_M × Int32)), lp (fun o => f_X9_rains_l33 N  x1 x2 o.1 o.2) n (M, x3) = some o → (∀ (Dy : wg_M) (y3 : Int32), o = (Dy, y3) → G_X9_rains p l e s m args below meth c E ad S C D0 85 C Dy [(0, .ref (ad 55)), (1, .int x1), (2, .int x2), (3, .int y3)] []) → G_X9_rains p l e s m args below meth c E ad S C D0 33 C M [(0, .ref (ad 55)), (1, .int x1), (2, .int x2), (3, .int x3)] [] := by
  intro n
  induction n with
  | zero => exact fun _ _ o h => (lp_zero h).elim
  | succ n ih =>
    intro M x3 o h K
    obtain ⟨o1, hb, h2⟩ := lp_some h
    replace hb : f_X9_rains_l33 N  x1 x2 M x3 = some o1 := hb
    clear h
    have Kc : ∀ (Dy : wg_M) (y3 : Int32), o1 = Sum.inl (Dy, y3) → G_X9_rains p l e s m args below meth c E ad S C D0 33 C Dy [(0, .ref (ad 55)), (1, .int x1), (2, .int x2), (3, .int y3)] [] := fun Dy y3 e1 => by
      subst e1
      exact ih Dy y3 o h2 K
    have Ke : ∀ (Dy : wg_M) (y3 : Int32), o1 = Sum.inr ((Dy, y3)) → G_X9_rains p l e s m args below meth c E ad S C D0 85 C Dy [(0, .ref (ad 55)), (1, .int x1), (2, .int x2), (3, .int y3)] [] := fun Dy y3 e1 => by
      subst e1
      exact K Dy y3 (sm_inj (α := (wg_M × Int32)) h2).symm
    clear ih K h2
    unfold f_X9_rains_l33 at hb
    have h := hb
    clear hb
    refine wg_iload_n X 3 dX9_rains_33 rfl rfl ?_
    refine wg_bipush (v := 32) X dX9_rains_34 (by decide) ?_
    refine wg_icmp_ge X 85 dX9_rains_36 (by decide) (fun c14 => ?_) (fun c14 => ?_)
    · have h := if_t c14 h
      exact Ke M x3 (sm_inj h).symm
    · have h := if_f c14 h
      refine wg_aload_n X 0 dX9_rains_39 rfl rfl ?_
      refine wg_iload_n X 2 dX9_rains_40 rfl rfl ?_
      obtain ⟨r16, h15, h⟩ := bd_some h
      refine wg_callVi (As := [.int x2]) (rest := []) X (c_X9_leads l E ad S hS C M x2  h15) T_yX9_leads k_1040 cl9 (SMi hS 55 9 rfl) dX9_rains_41 rfl rfl (Nat.le_of_ble_eq_true rfl) ⟨Nat.le_of_ble_eq_true rfl, Nat.le_of_ble_eq_true rfl⟩ ⟨Nat.zero_le _, Nat.zero_le _⟩ ?_
      refine wg_iload_n X 1 dX9_rains_44 rfl rfl ?_
      refine wg_icmp_ne X 79 dX9_rains_45 (by decide) (fun c17 => ?_) (fun c17 => ?_)
      · have h := if_f c17 h
        obtain ⟨v18, e19, h⟩ := lt_some h
        refine wg_iinc (lv' := [(3, .int v18), (0, .ref (ad 55)), (1, .int x1), (2, .int x2)]) X 3 dX9_rains_79 rfl e19 (by decide) rfl ?_
        refine wg_goto X 33 dX9_rains_82 (by decide) ?_
        refine wg_pick [1, 2, 3, 0] (lv' := [(0, .ref (ad 55)), (1, .int x1), (2, .int x2), (3, .int v18)]) rfl ?_
        exact Kc M v18 (sm_inj h).symm
      · have h := if_t c17 h
        refine wg_aload_n X 0 dX9_rains_48 rfl rfl ?_
        refine wg_iload_n X 2 dX9_rains_49 rfl rfl ?_
        refine wg_iload_n X 3 dX9_rains_50 rfl rfl ?_
        refine wg_iconst (v := 2) X dX9_rains_51 (by decide) ?_
        obtain ⟨r21, h20, h⟩ := bd_some h
        refine wg_callVi (As := [.int x2, .int x3, .int (2 : Int32)]) (rest := []) X (c_X9_passes l E ad S hS C M x2 x3 (2 : Int32)  h20) T_yX9_passes k_1066 cl9 (SMi hS 55 9 rfl) dX9_rains_52 rfl rfl (Nat.le_of_ble_eq_true rfl) ⟨Nat.le_of_ble_eq_true rfl, Nat.le_of_ble_eq_true rfl⟩ ⟨Nat.zero_le _, Nat.zero_le _⟩ ?_
        refine wg_if_eq X 79 dX9_rains_55 (by decide) (fun c22 => ?_) (fun c22 => ?_)
        · have h := if_t c22 h
          obtain ⟨v23, e24, h⟩ := lt_some h
          refine wg_iinc (lv' := [(3, .int v23), (0, .ref (ad 55)), (1, .int x1), (2, .int x2)]) X 3 dX9_rains_79 rfl e24 (by decide) rfl ?_
          refine wg_goto X 33 dX9_rains_82 (by decide) ?_
          refine wg_pick [1, 2, 3, 0] (lv' := [(0, .ref (ad 55)), (1, .int x1), (2, .int x2), (3, .int v23)]) rfl ?_
          exact Kc M v23 (sm_inj h).symm
        · have h := if_f c22 h
          refine wg_aload_n X 0 dX9_rains_58 rfl rfl ?_
          refine wg_getR (b := 67) X cl9 (SMi hS 55 9 rfl) 32 (by decide) dX9_rains_59 k_914 rfl (SMr hS 32 67 rfl) ?_
          refine wg_aload_n X 0 dX9_rains_62 rfl rfl ?_
          refine wg_iload_n X 2 dX9_rains_63 rfl rfl ?_
          refine wg_iload_n X 3 dX9_rains_64 rfl rfl ?_
          obtain ⟨r26, h25, h⟩ := bd_some h
          refine wg_callVi (As := [.int x2, .int x3]) (rest := [.ref (ad 67)]) X (c_X9_on l E ad S hS C M x2 x3  h25) T_yX9_on k_1062 cl9 (SMi hS 55 9 rfl) dX9_rains_65 rfl rfl (Nat.le_of_ble_eq_true rfl) ⟨Nat.le_of_ble_eq_true rfl, Nat.le_of_ble_eq_true rfl⟩ ⟨Nat.zero_le _, Nat.zero_le _⟩ ?_
          refine wg_dup2 X dX9_rains_68 rfl rfl ?_
          obtain ⟨z27, h⟩ := ck_some h
          refine wg_mald X (SMi hS 67 11 rfl) (SMl hS 67 32 rfl) z27 dX9_rains_69 ?_
          refine wg_aload_n X 0 dX9_rains_70 rfl rfl ?_
          refine wg_iconst (v := 1) X dX9_rains_71 (by decide) ?_
          refine wg_iload_n X 2 dX9_rains_72 rfl rfl ?_
          refine wg_iload_n X 3 dX9_rains_73 rfl rfl ?_
          obtain ⟨r29, M30, h28, h⟩ := bd2_some h
          refine wg_callVi (As := [.int (1 : Int32), .int x2, .int x3]) (rest := [.int (M.1 67 r26.toNatClampNeg), .int r26, .ref (ad 67)]) X (c_X9_says l E ad S hS N C M (1 : Int32) x2 x3  h28) T_yX9_says k_1166 cl9 (SMi hS 55 9 rfl) dX9_rains_74 rfl rfl (Nat.le_of_ble_eq_true rfl) ⟨Nat.le_of_ble_eq_true rfl, Nat.le_of_ble_eq_true rfl⟩ ⟨Nat.zero_le _, Nat.zero_le _⟩ ?_
          refine wg_iadd X dX9_rains_77 ?_
          obtain ⟨z31, h⟩ := ck_some h
          obtain ⟨M32, e33, h⟩ := lt_some h
          refine wg_maste X (SMi hS 67 11 rfl) (SMl hS 67 32 rfl) z31 dX9_rains_78 e33 ?_
          obtain ⟨v34, e35, h⟩ := lt_some h
          refine wg_iinc (lv' := [(3, .int v34), (0, .ref (ad 55)), (1, .int x1), (2, .int x2)]) X 3 dX9_rains_79 rfl e35 (by decide) rfl ?_
          refine wg_goto X 33 dX9_rains_82 (by decide) ?_
          refine wg_pick [1, 2, 3, 0] (lv' := [(0, .ref (ad 55)), (1, .int x1), (2, .int x2), (3, .int v34)]) rfl ?_
          exact Kc M32 v34 (sm_inj h).symm
set_option maxHeartbeats 4000000 in
set_option maxRecDepth 100000 in
theorem L_X9_rains_l23 {p : Program} {l : Launch} {e : Env} {s : State} {m : MethodId} {args : Array Value} {below : List Frame} {meth : Method} {c : Code} {E : wg_Ev} {ad : Nat → Nat} {S : wg_Sh} (X : wg_X p s m args meth c cX9_rains 4 RX9 E) (hr : meth.sig.returnType = none) (hS : wg_SM S) (D0 : wg_M) (C : wg_C) (N : Nat)   (x1 : Int32)  : ∀ (n : Nat) (M : wg_M) (x2 : Int32) (o : (wg_M × Int32)), lp (fun o => f_X9_rains_l23 N  x1 o.1 o.2) n (M, x2) = some o → (∀ (Dy : wg_M) (y2 : Int32), o = (Dy, y2) → G_X9_rains p l e s m args below meth c E ad S C D0 91 C Dy [(0, .ref (ad 55)), (1, .int x1), (2, .int y2)] []) → G_X9_rains p l e s m args below meth c E ad S C D0 23 C M [(0, .ref (ad 55)), (1, .int x1), (2, .int x2)] [] := by
  intro n
  induction n with
  | zero => exact fun _ _ o h => (lp_zero h).elim
  | succ n ih =>
    intro M x2 o h K
    obtain ⟨o1, hb, h2⟩ := lp_some h
    replace hb : f_X9_rains_l23 N  x1 M x2 = some o1 := hb
    clear h
    have Kc : ∀ (Dy : wg_M) (y2 : Int32), o1 = Sum.inl (Dy, y2) → G_X9_rains p l e s m args below meth c E ad S C D0 23 C Dy [(0, .ref (ad 55)), (1, .int x1), (2, .int y2)] [] := fun Dy y2 e1 => by
      subst e1
      exact ih Dy y2 o h2 K
    have Ke : ∀ (Dy : wg_M) (y2 : Int32), o1 = Sum.inr ((Dy, y2)) → G_X9_rains p l e s m args below meth c E ad S C D0 91 C Dy [(0, .ref (ad 55)), (1, .int x1), (2, .int y2)] [] := fun Dy y2 e1 => by
      subst e1
      exact K Dy y2 (sm_inj (α := (wg_M × Int32)) h2).symm
    clear ih K h2
    unfold f_X9_rains_l23 at hb
    have h := hb
    clear hb
    refine wg_iload_n X 2 dX9_rains_23 rfl rfl ?_
    refine wg_aload_n X 0 dX9_rains_24 rfl rfl ?_
    refine wg_getM X cl9 (SMi hS 55 9 rfl) 13 (by decide) dX9_rains_25 k_895 rfl ?_
    refine wg_icmp_ge X 91 dX9_rains_28 (by decide) (fun c13 => ?_) (fun c13 => ?_)
    · have h := if_t c13 h
      exact Ke M x2 (sm_inj h).symm
    · have h := if_f c13 h
      refine wg_iconst (v := 0) X dX9_rains_31 (by decide) ?_
      refine wg_istore_n (lv' := [(3, .int (0 : Int32)), (0, .ref (ad 55)), (1, .int x1), (2, .int x2)]) X dX9_rains_32 rfl rfl (by decide) rfl ?_
      obtain ⟨o38, h39, h⟩ := bd2_o h
      refine wg_pick [1, 2, 3, 0] (lv' := [(0, .ref (ad 55)), (1, .int x1), (2, .int x2), (3, .int (0 : Int32))]) rfl ?_
      refine L_X9_rains_l33 X hr hS D0 C N   x1 x2  N M (0 : Int32) o38 h39 (fun M36 v37 e41 => ?_)
      · subst o38
        replace h := bd2_in h
        obtain ⟨v42, e43, h⟩ := lt_some h
        refine wg_iinc (lv' := [(2, .int v42), (0, .ref (ad 55)), (1, .int x1), (3, .int v37)]) X 2 dX9_rains_85 rfl e43 (by decide) rfl ?_
        refine wg_goto X 23 dX9_rains_88 (by decide) ?_
        refine wg_pick [1, 2, 0] (lv' := [(0, .ref (ad 55)), (1, .int x1), (2, .int v42)]) rfl ?_
        exact Kc M36 v42 (sm_inj h).symm
set_option maxHeartbeats 4000000 in
set_option maxRecDepth 100000 in
theorem c_X9_rains (l : Launch) (E : wg_Ev) (ad : Nat → Nat) (S : wg_Sh) (hS : wg_SM S) (N : Nat) (C : wg_C) (M : wg_M) (p1 : Int32)  {D0 : wg_M} (h : f_X9_rains N M p1 = some D0) : wg_Cv l yX9_rains cX9_rains 4 none 76 2953 E ad S C M [.ref (ad 55), .int p1] C D0 := by
  refine wg_start (own := RX9) (by decide +kernel) rfl (Nat.le_of_ble_eq_true rfl) ?_
  intro p e s m below meth c X hr hnm
  refine wg_lv (lv' := [(0, .ref (ad 55)), (1, .int p1)]) rfl ?_
  unfold f_X9_rains at h
  refine wg_iconst (v := 0) X dX9_rains_0 (by decide) ?_
  refine wg_istore_n (lv' := [(2, .int (0 : Int32)), (0, .ref (ad 55)), (1, .int p1)]) X dX9_rains_1 rfl rfl (by decide) rfl ?_
  obtain ⟨o9, h10, h⟩ := bd2_o h
  refine wg_pick [1, 2, 0] (lv' := [(0, .ref (ad 55)), (1, .int p1), (2, .int (0 : Int32))]) rfl ?_
  refine L_X9_rains_l2 X hr hS D0 C N   p1  N M (0 : Int32) o9 h10 (fun M7 v8 e12 => ?_)
  · subst o9
    replace h := bd2_in h
    refine wg_iconst (v := 0) X dX9_rains_21 (by decide) ?_
    refine wg_istore_n (lv' := [(2, .int (0 : Int32)), (0, .ref (ad 55)), (1, .int p1)]) X dX9_rains_22 rfl rfl (by decide) rfl ?_
    obtain ⟨o46, h47, h⟩ := bd2_o h
    refine wg_pick [1, 2, 0] (lv' := [(0, .ref (ad 55)), (1, .int p1), (2, .int (0 : Int32))]) rfl ?_
    refine L_X9_rains_l23 X hr hS D0 C N   p1  N M7 (0 : Int32) o46 h47 (fun M44 v45 e49 => ?_)
    · subst o46
      replace h := bd2_in h
      exact wg_vret X ⟨rfl, (sm_inj h)⟩ hr dX9_rains_91
-- WindowsGiveModel.wetAll()I (('c', 55),)
def f_X9_wetAll_l4 (N : Nat) (M : wg_M)   (x1 : Int32) (x2 : Int32) : Option ((Int32 × Int32) ⊕ (Int32 × Int32)) :=
  if (32 : Int32) ≤ x2 then (
    some (.inr (x1, x2)))
  else (
    ck (inb x2 32) <|
    lt_ (x1 + (M.1 67 x2.toNatClampNeg)) fun v3 =>
    lt_ (x2 + (1 : Int32)) fun v5 =>
    some (.inl (v3, v5)))
def f_X9_wetAll (N : Nat) (M : wg_M)  : Option Int32 :=
  bd2 (lp (fun o => f_X9_wetAll_l4 N M   o.1 o.2) N ((0 : Int32), (0 : Int32))) fun v7 v8 =>
  some v7
abbrev G_X9_wetAll (p : Program) (l : Launch) (e : Env) (s : State) (m : MethodId) (args : Array Value) (below : List Frame) (meth : Method) (c : Code) (E : wg_Ev) (ad : Nat → Nat) (S : wg_Sh) (r0 : Int32) (C0 : wg_C) (M0 : wg_M) (pc : Nat) (C : wg_C) (M : wg_M) (lv : List (Nat × Value)) (st : List Value) : Prop := wg_G p l e (wg_Rm 0 0) s m args below meth c (MQ below (wg_Qi E ad S r0 C0 M0) args s 0 0 (wg_A E)) 3 E ad S 0 0 pc C M lv st
set_option maxHeartbeats 4000000 in
set_option maxRecDepth 100000 in
theorem L_X9_wetAll_l4 {p : Program} {l : Launch} {e : Env} {s : State} {m : MethodId} {args : Array Value} {below : List Frame} {meth : Method} {c : Code} {E : wg_Ev} {ad : Nat → Nat} {S : wg_Sh} (X : wg_X p s m args meth c cX9_wetAll 3 RX9 E) (hr : meth.sig.returnType = (some .int)) (hS : wg_SM S) (r0 : Int32) (C : wg_C) (N : Nat)  (M : wg_M)    : ∀ (n : Nat) (x1 : Int32) (x2 : Int32) (o : (Int32 × Int32)), lp (fun o => f_X9_wetAll_l4 N M   o.1 o.2) n (x1, x2) = some o → (∀ (y1 : Int32) (y2 : Int32), o = (y1, y2) → G_X9_wetAll p l e s m args below meth c E ad S r0 C M 25 C M [(0, .ref (ad 55)), (1, .int y1), (2, .int y2)] []) → G_X9_wetAll p l e s m args below meth c E ad S r0 C M 4 C M [(0, .ref (ad 55)), (1, .int x1), (2, .int x2)] [] := by
  intro n
  induction n with
  | zero => exact fun _ _ o h => (lp_zero h).elim
  | succ n ih =>
    intro x1 x2 o h K
    obtain ⟨o1, hb, h2⟩ := lp_some h
    replace hb : f_X9_wetAll_l4 N M   x1 x2 = some o1 := hb
    clear h
    have Kc : ∀ (y1 : Int32) (y2 : Int32), o1 = Sum.inl (y1, y2) → G_X9_wetAll p l e s m args below meth c E ad S r0 C M 4 C M [(0, .ref (ad 55)), (1, .int y1), (2, .int y2)] [] := fun y1 y2 e1 => by
      subst e1
      exact ih y1 y2 o h2 K
    have Ke : ∀ (y1 : Int32) (y2 : Int32), o1 = Sum.inr ((y1, y2)) → G_X9_wetAll p l e s m args below meth c E ad S r0 C M 25 C M [(0, .ref (ad 55)), (1, .int y1), (2, .int y2)] [] := fun y1 y2 e1 => by
      subst e1
      exact K y1 y2 (sm_inj (α := (Int32 × Int32)) h2).symm
    clear ih K h2
    unfold f_X9_wetAll_l4 at hb
    have h := hb
    clear hb
    refine wg_iload_n X 2 dX9_wetAll_4 rfl rfl ?_
    refine wg_bipush (v := 32) X dX9_wetAll_5 (by decide) ?_
    refine wg_icmp_ge X 25 dX9_wetAll_7 (by decide) (fun c1 => ?_) (fun c1 => ?_)
    · have h := if_t c1 h
      exact Ke x1 x2 (sm_inj h).symm
    · have h := if_f c1 h
      refine wg_iload_n X 1 dX9_wetAll_10 rfl rfl ?_
      refine wg_aload_n X 0 dX9_wetAll_11 rfl rfl ?_
      refine wg_getR (b := 67) X cl9 (SMi hS 55 9 rfl) 32 (by decide) dX9_wetAll_12 k_914 rfl (SMr hS 32 67 rfl) ?_
      refine wg_iload_n X 2 dX9_wetAll_15 rfl rfl ?_
      obtain ⟨z2, h⟩ := ck_some h
      refine wg_mald X (SMi hS 67 11 rfl) (SMl hS 67 32 rfl) z2 dX9_wetAll_16 ?_
      refine wg_iadd X dX9_wetAll_17 ?_
      obtain ⟨v3, e4, h⟩ := lt_some h
      refine wg_istore_n (lv' := [(1, .int v3), (0, .ref (ad 55)), (2, .int x2)]) X dX9_wetAll_18 rfl e4 (by decide) rfl ?_
      obtain ⟨v5, e6, h⟩ := lt_some h
      refine wg_iinc (lv' := [(2, .int v5), (1, .int v3), (0, .ref (ad 55))]) X 2 dX9_wetAll_19 rfl e6 (by decide) rfl ?_
      refine wg_goto X 4 dX9_wetAll_22 (by decide) ?_
      refine wg_pick [2, 1, 0] (lv' := [(0, .ref (ad 55)), (1, .int v3), (2, .int v5)]) rfl ?_
      exact Kc v3 v5 (sm_inj h).symm
set_option maxHeartbeats 4000000 in
set_option maxRecDepth 100000 in
theorem c_X9_wetAll (l : Launch) (E : wg_Ev) (ad : Nat → Nat) (S : wg_Sh) (hS : wg_SM S) (N : Nat) (C : wg_C) (M : wg_M)   {r0 : Int32} (h : f_X9_wetAll N M  = some r0) : wg_Ci l yX9_wetAll cX9_wetAll 3 (some .int) 0 0 E ad S C M [.ref (ad 55)] r0 C M := by
  refine wg_start (own := RX9) (by decide +kernel) rfl (Nat.le_of_ble_eq_true rfl) ?_
  intro p e s m below meth c X hr hnm
  refine wg_lv (lv' := [(0, .ref (ad 55))]) rfl ?_
  unfold f_X9_wetAll at h
  refine wg_iconst (v := 0) X dX9_wetAll_0 (by decide) ?_
  refine wg_istore_n (lv' := [(1, .int (0 : Int32)), (0, .ref (ad 55))]) X dX9_wetAll_1 rfl rfl (by decide) rfl ?_
  refine wg_iconst (v := 0) X dX9_wetAll_2 (by decide) ?_
  refine wg_istore_n (lv' := [(2, .int (0 : Int32)), (1, .int (0 : Int32)), (0, .ref (ad 55))]) X dX9_wetAll_3 rfl rfl (by decide) rfl ?_
  obtain ⟨o9, h10, h⟩ := bd2_o h
  refine wg_pick [2, 1, 0] (lv' := [(0, .ref (ad 55)), (1, .int (0 : Int32)), (2, .int (0 : Int32))]) rfl ?_
  refine L_X9_wetAll_l4 X hr hS r0 C N  M    N (0 : Int32) (0 : Int32) o9 h10 (fun v7 v8 e12 => ?_)
  · subst o9
    replace h := bd2_in h
    refine wg_iload_n X 1 dX9_wetAll_25 rfl rfl ?_
    exact wg_iret X ⟨(sm_inj h), rfl, rfl⟩ hr dX9_wetAll_26
-- WindowsGiveModel.water(II)I (('c', 55), 'i', 'i')
def f_X9_water (N : Nat) (M : wg_M) (p1 : Int32) (p2 : Int32) : Option (Int32 × wg_M) :=
  bd (f_X9_isRoom p1) fun r2 =>
  if r2 = 0 then (
    some ((-2 : Int32), M))
  else (
    bd (f_X9_isDay p2) fun r5 =>
    if r5 = 0 then (
      some ((-2 : Int32), M))
    else (
      bd (f_X9_rains N M p1) fun M8 =>
      ck (inb p2 32) <|
      some ((M8.1 67 p2.toNatClampNeg), M8)))
set_option maxHeartbeats 4000000 in
set_option maxRecDepth 100000 in
theorem c_X9_water (l : Launch) (E : wg_Ev) (ad : Nat → Nat) (S : wg_Sh) (hS : wg_SM S) (N : Nat) (C : wg_C) (M : wg_M) (p1 : Int32) (p2 : Int32)  {r0 : Int32} {D0 : wg_M} (h : f_X9_water N M p1 p2 = some (r0, D0)) : wg_Ci l yX9_water cX9_water 3 (some .int) 77 2976 E ad S C M [.ref (ad 55), .int p1, .int p2] r0 C D0 := by
  refine wg_start (own := RX9) (by decide +kernel) rfl (Nat.le_of_ble_eq_true rfl) ?_
  intro p e s m below meth c X hr hnm
  refine wg_lv (lv' := [(0, .ref (ad 55)), (1, .int p1), (2, .int p2)]) rfl ?_
  unfold f_X9_water at h
  refine wg_iload_n X 1 dX9_water_0 rfl rfl ?_
  obtain ⟨r2, h1, h⟩ := bd_some h
  refine wg_callSi (As := [.int p1]) (rest := []) X (c_X9_isRoom l E ad S C M p1  h1) T_yX9_isRoom k_1050 dX9_water_1 rfl rfl (Nat.le_of_ble_eq_true rfl) ⟨Nat.le_of_ble_eq_true rfl, Nat.le_of_ble_eq_true rfl⟩ ⟨Nat.zero_le _, Nat.zero_le _⟩ ?_
  refine wg_if_eq X 14 dX9_water_4 (by decide) (fun c3 => ?_) (fun c3 => ?_)
  · have h := if_t c3 h
    refine wg_bipush (v := -2) X dX9_water_14 (by decide) ?_
    exact wg_iret X ⟨(Prod.mk.inj (sm_inj h)).1, rfl, (Prod.mk.inj (sm_inj h)).2⟩ hr dX9_water_16
  · have h := if_f c3 h
    refine wg_iload_n X 2 dX9_water_7 rfl rfl ?_
    obtain ⟨r5, h4, h⟩ := bd_some h
    refine wg_callSi (As := [.int p2]) (rest := []) X (c_X9_isDay l E ad S C M p2  h4) T_yX9_isDay k_1024 dX9_water_8 rfl rfl (Nat.le_of_ble_eq_true rfl) ⟨Nat.le_of_ble_eq_true rfl, Nat.le_of_ble_eq_true rfl⟩ ⟨Nat.zero_le _, Nat.zero_le _⟩ ?_
    refine wg_if_ne X 17 dX9_water_11 (by decide) (fun c6 => ?_) (fun c6 => ?_)
    · have h := if_f c6 h
      refine wg_aload_n X 0 dX9_water_17 rfl rfl ?_
      refine wg_iload_n X 1 dX9_water_18 rfl rfl ?_
      obtain ⟨M8, h7, h⟩ := bd_some h
      refine wg_callVv (As := [.int p1]) (rest := []) X (c_X9_rains l E ad S hS N C M p1  h7) T_yX9_rains k_1254 cl9 (SMi hS 55 9 rfl) dX9_water_19 rfl rfl (Nat.le_of_ble_eq_true rfl) ⟨Nat.le_of_ble_eq_true rfl, Nat.le_of_ble_eq_true rfl⟩ ⟨Nat.zero_le _, Nat.zero_le _⟩ ?_
      refine wg_aload_n X 0 dX9_water_22 rfl rfl ?_
      refine wg_getR (b := 67) X cl9 (SMi hS 55 9 rfl) 32 (by decide) dX9_water_23 k_914 rfl (SMr hS 32 67 rfl) ?_
      refine wg_iload_n X 2 dX9_water_26 rfl rfl ?_
      obtain ⟨z9, h⟩ := ck_some h
      refine wg_mald X (SMi hS 67 11 rfl) (SMl hS 67 32 rfl) z9 dX9_water_27 ?_
      exact wg_iret X ⟨(Prod.mk.inj (sm_inj h)).1, rfl, (Prod.mk.inj (sm_inj h)).2⟩ hr dX9_water_28
    · have h := if_t c6 h
      refine wg_bipush (v := -2) X dX9_water_14 (by decide) ?_
      exact wg_iret X ⟨(Prod.mk.inj (sm_inj h)).1, rfl, (Prod.mk.inj (sm_inj h)).2⟩ hr dX9_water_16
-- WindowsGiveModel.wettest(II)I (('c', 55), 'i', 'i')
def f_X9_wettest_l30 (N : Nat) (M : wg_M)  (x2 : Int32) (x3 : Int32) (x4 : Int32) : Option ((Int32 × Int32) ⊕ (Int32 × Int32)) :=
  if (32 : Int32) ≤ x4 then (
    some (.inr (x3, x4)))
  else (
    ck (inb x4 32) <|
    ck (inb x3 32) <|
    if (M.1 67 x4.toNatClampNeg) ≤ (M.1 67 x3.toNatClampNeg) then (
      lt_ (x4 + (1 : Int32)) fun v13 =>
      some (.inl (x3, v13)))
    else (
      lt_ (x4 + (1 : Int32)) fun v15 =>
      some (.inl (x4, v15))))
def f_X9_wettest (N : Nat) (M : wg_M) (p1 : Int32) (p2 : Int32) : Option (Int32 × wg_M) :=
  bd (f_X9_isRoom p1) fun r2 =>
  if r2 = 0 then (
    some ((-2 : Int32), M))
  else (
    bd (f_X9_in p2.toInt64 (0 : Int64) (1 : Int64)) fun r5 =>
    if r5 = 0 then (
      some ((-2 : Int32), M))
    else (
      bd (f_X9_rains N M p1) fun M8 =>
      bd2 (lp (fun o => f_X9_wettest_l30 N M8  p2 o.1 o.2) N ((0 : Int32), (1 : Int32))) fun v17 v18 =>
      if p2 = 0 then (
        some (v17, M8))
      else (
        bd (f_X9_wetAll N M8 ) fun r25 =>
        some (r25, M8))))
abbrev G_X9_wettest (p : Program) (l : Launch) (e : Env) (s : State) (m : MethodId) (args : Array Value) (below : List Frame) (meth : Method) (c : Code) (E : wg_Ev) (ad : Nat → Nat) (S : wg_Sh) (r0 : Int32) (C0 : wg_C) (M0 : wg_M) (pc : Nat) (C : wg_C) (M : wg_M) (lv : List (Nat × Value)) (st : List Value) : Prop := wg_G p l e (wg_Rm 77 2976) s m args below meth c (MQ below (wg_Qi E ad S r0 C0 M0) args s 0 0 (wg_A E)) 5 E ad S 0 0 pc C M lv st
set_option maxHeartbeats 4000000 in
set_option maxRecDepth 100000 in
theorem L_X9_wettest_l30 {p : Program} {l : Launch} {e : Env} {s : State} {m : MethodId} {args : Array Value} {below : List Frame} {meth : Method} {c : Code} {E : wg_Ev} {ad : Nat → Nat} {S : wg_Sh} (X : wg_X p s m args meth c cX9_wettest 5 RX9 E) (hr : meth.sig.returnType = (some .int)) (hS : wg_SM S) (r0 : Int32) (D0 : wg_M) (C : wg_C) (N : Nat)  (M : wg_M)  (x2 : Int32)  : ∀ (n : Nat) (x3 : Int32) (x4 : Int32) (o : (Int32 × Int32)), lp (fun o => f_X9_wettest_l30 N M  x2 o.1 o.2) n (x3, x4) = some o → (∀ (y3 : Int32) (y4 : Int32), o = (y3, y4) → G_X9_wettest p l e s m args below meth c E ad S r0 C D0 66 C M [(0, .ref (ad 55)), (2, .int x2), (3, .int y3), (4, .int y4)] []) → G_X9_wettest p l e s m args below meth c E ad S r0 C D0 30 C M [(0, .ref (ad 55)), (2, .int x2), (3, .int x3), (4, .int x4)] [] := by
  intro n
  induction n with
  | zero => exact fun _ _ o h => (lp_zero h).elim
  | succ n ih =>
    intro x3 x4 o h K
    obtain ⟨o1, hb, h2⟩ := lp_some h
    replace hb : f_X9_wettest_l30 N M  x2 x3 x4 = some o1 := hb
    clear h
    have Kc : ∀ (y3 : Int32) (y4 : Int32), o1 = Sum.inl (y3, y4) → G_X9_wettest p l e s m args below meth c E ad S r0 C D0 30 C M [(0, .ref (ad 55)), (2, .int x2), (3, .int y3), (4, .int y4)] [] := fun y3 y4 e1 => by
      subst e1
      exact ih y3 y4 o h2 K
    have Ke : ∀ (y3 : Int32) (y4 : Int32), o1 = Sum.inr ((y3, y4)) → G_X9_wettest p l e s m args below meth c E ad S r0 C D0 66 C M [(0, .ref (ad 55)), (2, .int x2), (3, .int y3), (4, .int y4)] [] := fun y3 y4 e1 => by
      subst e1
      exact K y3 y4 (sm_inj (α := (Int32 × Int32)) h2).symm
    clear ih K h2
    unfold f_X9_wettest_l30 at hb
    have h := hb
    clear hb
    refine wg_iload X 3 dX9_wettest_30 rfl ?_
    refine wg_bipush (v := 32) X dX9_wettest_32 (by decide) ?_
    refine wg_icmp_ge X 66 dX9_wettest_34 (by decide) (fun c9 => ?_) (fun c9 => ?_)
    · have h := if_t c9 h
      exact Ke x3 x4 (sm_inj h).symm
    · have h := if_f c9 h
      refine wg_aload_n X 0 dX9_wettest_37 rfl rfl ?_
      refine wg_getR (b := 67) X cl9 (SMi hS 55 9 rfl) 32 (by decide) dX9_wettest_38 k_914 rfl (SMr hS 32 67 rfl) ?_
      refine wg_iload X 3 dX9_wettest_41 rfl ?_
      obtain ⟨z10, h⟩ := ck_some h
      refine wg_mald X (SMi hS 67 11 rfl) (SMl hS 67 32 rfl) z10 dX9_wettest_43 ?_
      refine wg_aload_n X 0 dX9_wettest_44 rfl rfl ?_
      refine wg_getR (b := 67) X cl9 (SMi hS 55 9 rfl) 32 (by decide) dX9_wettest_45 k_914 rfl (SMr hS 32 67 rfl) ?_
      refine wg_iload_n X 2 dX9_wettest_48 rfl rfl ?_
      obtain ⟨z11, h⟩ := ck_some h
      refine wg_mald X (SMi hS 67 11 rfl) (SMl hS 67 32 rfl) z11 dX9_wettest_49 ?_
      refine wg_icmp_le X 58 dX9_wettest_50 (by decide) (fun c12 => ?_) (fun c12 => ?_)
      · have h := if_t c12 h
        refine wg_iload_n X 2 dX9_wettest_58 rfl rfl ?_
        refine wg_istore_n (lv' := [(3, .int x3), (0, .ref (ad 55)), (2, .int x2), (4, .int x4)]) X dX9_wettest_59 rfl rfl (by decide) rfl ?_
        obtain ⟨v13, e14, h⟩ := lt_some h
        refine wg_iinc (lv' := [(4, .int v13), (3, .int x3), (0, .ref (ad 55)), (2, .int x2)]) X 3 dX9_wettest_60 rfl e14 (by decide) rfl ?_
        refine wg_goto X 30 dX9_wettest_63 (by decide) ?_
        refine wg_pick [2, 3, 1, 0] (lv' := [(0, .ref (ad 55)), (2, .int x2), (3, .int x3), (4, .int v13)]) rfl ?_
        exact Kc x3 v13 (sm_inj h).symm
      · have h := if_f c12 h
        refine wg_iload X 3 dX9_wettest_53 rfl ?_
        refine wg_goto X 59 dX9_wettest_55 (by decide) ?_
        refine wg_istore_n (lv' := [(3, .int x4), (0, .ref (ad 55)), (2, .int x2), (4, .int x4)]) X dX9_wettest_59 rfl rfl (by decide) rfl ?_
        obtain ⟨v15, e16, h⟩ := lt_some h
        refine wg_iinc (lv' := [(4, .int v15), (3, .int x4), (0, .ref (ad 55)), (2, .int x2)]) X 3 dX9_wettest_60 rfl e16 (by decide) rfl ?_
        refine wg_goto X 30 dX9_wettest_63 (by decide) ?_
        refine wg_pick [2, 3, 1, 0] (lv' := [(0, .ref (ad 55)), (2, .int x2), (3, .int x4), (4, .int v15)]) rfl ?_
        exact Kc x4 v15 (sm_inj h).symm
set_option maxHeartbeats 4000000 in
set_option maxRecDepth 100000 in
theorem c_X9_wettest (l : Launch) (E : wg_Ev) (ad : Nat → Nat) (S : wg_Sh) (hS : wg_SM S) (N : Nat) (C : wg_C) (M : wg_M) (p1 : Int32) (p2 : Int32)  {r0 : Int32} {D0 : wg_M} (h : f_X9_wettest N M p1 p2 = some (r0, D0)) : wg_Ci l yX9_wettest cX9_wettest 5 (some .int) 77 2976 E ad S C M [.ref (ad 55), .int p1, .int p2] r0 C D0 := by
  refine wg_start (own := RX9) (by decide +kernel) rfl (Nat.le_of_ble_eq_true rfl) ?_
  intro p e s m below meth c X hr hnm
  refine wg_lv (lv' := [(0, .ref (ad 55)), (1, .int p1), (2, .int p2)]) rfl ?_
  unfold f_X9_wettest at h
  refine wg_iload_n X 1 dX9_wettest_0 rfl rfl ?_
  obtain ⟨r2, h1, h⟩ := bd_some h
  refine wg_callSi (As := [.int p1]) (rest := []) X (c_X9_isRoom l E ad S C M p1  h1) T_yX9_isRoom k_1050 dX9_wettest_1 rfl rfl (Nat.le_of_ble_eq_true rfl) ⟨Nat.le_of_ble_eq_true rfl, Nat.le_of_ble_eq_true rfl⟩ ⟨Nat.zero_le _, Nat.zero_le _⟩ ?_
  refine wg_if_eq X 17 dX9_wettest_4 (by decide) (fun c3 => ?_) (fun c3 => ?_)
  · have h := if_t c3 h
    refine wg_bipush (v := -2) X dX9_wettest_17 (by decide) ?_
    exact wg_iret X ⟨(Prod.mk.inj (sm_inj h)).1, rfl, (Prod.mk.inj (sm_inj h)).2⟩ hr dX9_wettest_19
  · have h := if_f c3 h
    refine wg_iload_n X 2 dX9_wettest_7 rfl rfl ?_
    refine wg_i2l X dX9_wettest_8 ?_
    refine wg_lconst (v := 0) X dX9_wettest_9 (by decide) ?_
    refine wg_lconst (v := 1) X dX9_wettest_10 (by decide) ?_
    obtain ⟨r5, h4, h⟩ := bd_some h
    refine wg_callSi (As := [.long (p2.toInt64), .long (0 : Int64), .long (1 : Int64)]) (rest := []) X (c_X9_in l E ad S C M p2.toInt64 (0 : Int64) (1 : Int64)  h4) T_yX9_in k_1021 dX9_wettest_11 rfl rfl (Nat.le_of_ble_eq_true rfl) ⟨Nat.le_of_ble_eq_true rfl, Nat.le_of_ble_eq_true rfl⟩ ⟨Nat.zero_le _, Nat.zero_le _⟩ ?_
    refine wg_if_ne X 20 dX9_wettest_14 (by decide) (fun c6 => ?_) (fun c6 => ?_)
    · have h := if_f c6 h
      refine wg_aload_n X 0 dX9_wettest_20 rfl rfl ?_
      refine wg_iload_n X 1 dX9_wettest_21 rfl rfl ?_
      obtain ⟨M8, h7, h⟩ := bd_some h
      refine wg_callVv (As := [.int p1]) (rest := []) X (c_X9_rains l E ad S hS N C M p1  h7) T_yX9_rains k_1254 cl9 (SMi hS 55 9 rfl) dX9_wettest_22 rfl rfl (Nat.le_of_ble_eq_true rfl) ⟨Nat.le_of_ble_eq_true rfl, Nat.le_of_ble_eq_true rfl⟩ ⟨Nat.zero_le _, Nat.zero_le _⟩ ?_
      refine wg_iconst (v := 0) X dX9_wettest_25 (by decide) ?_
      refine wg_istore_n (lv' := [(3, .int (0 : Int32)), (0, .ref (ad 55)), (1, .int p1), (2, .int p2)]) X dX9_wettest_26 rfl rfl (by decide) rfl ?_
      refine wg_iconst (v := 1) X dX9_wettest_27 (by decide) ?_
      refine wg_istore (lv' := [(4, .int (1 : Int32)), (3, .int (0 : Int32)), (0, .ref (ad 55)), (1, .int p1), (2, .int p2)]) X dX9_wettest_28 rfl (by decide) rfl ?_
      obtain ⟨o19, h20, h⟩ := bd2_o h
      refine wg_pick [2, 4, 1, 0] (lv' := [(0, .ref (ad 55)), (2, .int p2), (3, .int (0 : Int32)), (4, .int (1 : Int32))]) rfl ?_
      refine L_X9_wettest_l30 X hr hS r0 D0 C N  M8  p2  N (0 : Int32) (1 : Int32) o19 h20 (fun v17 v18 e22 => ?_)
      · subst o19
        replace h := bd2_in h
        refine wg_iload_n X 1 dX9_wettest_66 rfl rfl ?_
        refine wg_if_ne X 74 dX9_wettest_67 (by decide) (fun c23 => ?_) (fun c23 => ?_)
        · have h := if_f c23 h
          refine wg_aload_n X 0 dX9_wettest_74 rfl rfl ?_
          obtain ⟨r25, h24, h⟩ := bd_some h
          refine wg_callVi (As := []) (rest := []) X (c_X9_wetAll l E ad S hS N C M8   h24) T_yX9_wetAll k_1262 cl9 (SMi hS 55 9 rfl) dX9_wettest_75 rfl rfl (Nat.le_of_ble_eq_true rfl) ⟨Nat.le_of_ble_eq_true rfl, Nat.le_of_ble_eq_true rfl⟩ ⟨Nat.zero_le _, Nat.zero_le _⟩ ?_
          exact wg_iret X ⟨(Prod.mk.inj (sm_inj h)).1, rfl, (Prod.mk.inj (sm_inj h)).2⟩ hr dX9_wettest_78
        · have h := if_t c23 h
          refine wg_iload_n X 2 dX9_wettest_70 rfl rfl ?_
          refine wg_goto X 78 dX9_wettest_71 (by decide) ?_
          exact wg_iret X ⟨(Prod.mk.inj (sm_inj h)).1, rfl, (Prod.mk.inj (sm_inj h)).2⟩ hr dX9_wettest_78
    · have h := if_t c6 h
      refine wg_bipush (v := -2) X dX9_wettest_17 (by decide) ?_
      exact wg_iret X ⟨(Prod.mk.inj (sm_inj h)).1, rfl, (Prod.mk.inj (sm_inj h)).2⟩ hr dX9_wettest_19
def R_X9v (l : Launch) (E : wg_Ev) (ad : Nat → Nat) (S : wg_Sh) (C : wg_C) (d k : Nat) (D : wg_M) (i0 i1 i2 i3 i4 : Int32) (D0 : wg_M) : Prop := match k with
  | 0 => wg_Cv l yX9_viewsFrom cX9_viewsFrom 7 none (d + 100) (40 * d + 6000) E ad S C D [.ref (ad 55), .int i0, .int i1, .int i2, .int i3, .int i4] C D0
  | _ => True
-- WindowsGiveModel.viewsFrom(IIIII)V (('c', 55), 'i', 'i', 'i', 'i', 'i')
def f_X9_viewsFrom_l27 (N : Nat) (rc : Nat → wg_M → Int32 → Int32 → Int32 → Int32 → Int32 → Option wg_M)  (x1 : Int32) (x2 : Int32) (x3 : Int32) (x4 : Int32) (x5 : Int32) (M : wg_M) (x6 : Int32) : Option ((wg_M × Int32) ⊕ (wg_M × Int32)) :=
  if (M.1 55 13) ≤ x6 then (
    some (.inr (M, x6)))
  else (
    if ((x2 >>> (x6 &&& 31)) &&& (1 : Int32)) = 0 then (
      bd (f_X9_passes M x6 x5 (0 : Int32)) fun r7 =>
      if r7 = 0 then (
        lt_ (x6 + (1 : Int32)) fun v9 =>
        some (.inl (M, v9)))
      else (
        bd2 (f_X9_says N M (2 : Int32) x6 x5) fun r12 M13 =>
        bd (rc 0 M13 (x1 - (1 : Int32)) (x2 ||| ((1 : Int32) <<< (x6 &&& 31))) (x3 + r12) ((((10 : Int32) * x4) + x6) + (1 : Int32)) x5) fun M15 =>
        lt_ (x6 + (1 : Int32)) fun v16 =>
        some (.inl (M15, v16))))
    else (
      lt_ (x6 + (1 : Int32)) fun v4 =>
      some (.inl (M, v4))))
def f_X9_viewsFrom (N : Nat) (rc : Nat → wg_M → Int32 → Int32 → Int32 → Int32 → Int32 → Option wg_M) (M : wg_M) (p1 : Int32) (p2 : Int32) (p3 : Int32) (p4 : Int32) (p5 : Int32) : Option wg_M :=
  if p1 = 0 then (
    if p3 ≤ (M.1 55 33) then (
      some M)
    else (
      lt_ (wg_sM M 55 33 p3) fun M25 =>
      lt_ (wg_sM M25 55 34 p4) fun M27 =>
      some M27))
  else (
    bd2 (lp (fun o => f_X9_viewsFrom_l27 N rc  p1 p2 p3 p4 p5 o.1 o.2) N (M, (0 : Int32))) fun M18 v19 =>
    some M18)
abbrev G_X9_viewsFrom (d : Nat) (p : Program) (l : Launch) (e : Env) (s : State) (m : MethodId) (args : Array Value) (below : List Frame) (meth : Method) (c : Code) (E : wg_Ev) (ad : Nat → Nat) (S : wg_Sh) (C0 : wg_C) (M0 : wg_M) (pc : Nat) (C : wg_C) (M : wg_M) (lv : List (Nat × Value)) (st : List Value) : Prop := wg_G p l e (wg_Rm (d + 101) (40 * (d + 1) + 6000)) s m args below meth c (MQ below (wg_Qv E ad S C0 M0) args s 0 0 (wg_A E)) 7 E ad S 0 0 pc C M lv st
set_option maxHeartbeats 4000000 in
set_option maxRecDepth 100000 in
theorem L_X9_viewsFrom_l27 {p : Program} {l : Launch} {e : Env} {s : State} {m : MethodId} {args : Array Value} {below : List Frame} {meth : Method} {c : Code} {E : wg_Ev} {ad : Nat → Nat} {S : wg_Sh} (X : wg_X p s m args meth c cX9_viewsFrom 7 RX9 E) (hr : meth.sig.returnType = none) (hS : wg_SM S) (D0 : wg_M) (C : wg_C) (N : Nat) (d : Nat) (rc : Nat → wg_M → Int32 → Int32 → Int32 → Int32 → Int32 → Option wg_M) (hrc : ∀ (k : Nat) (D : wg_M) (i0 i1 i2 i3 i4 : Int32) (D0 : wg_M), rc k D i0 i1 i2 i3 i4 = some D0 → R_X9v l E ad S C d k D i0 i1 i2 i3 i4 D0)   (x1 : Int32) (x2 : Int32) (x3 : Int32) (x4 : Int32) (x5 : Int32)  : ∀ (n : Nat) (M : wg_M) (x6 : Int32) (o : (wg_M × Int32)), lp (fun o => f_X9_viewsFrom_l27 N rc  x1 x2 x3 x4 x5 o.1 o.2) n (M, x6) = some o → (∀ (Dy : wg_M) (y6 : Int32), o = (Dy, y6) → G_X9_viewsFrom d p l e s m args below meth c E ad S C D0 99 C Dy [(0, .ref (ad 55)), (1, .int x1), (2, .int x2), (3, .int x3), (4, .int x4), (5, .int x5), (6, .int y6)] []) → G_X9_viewsFrom d p l e s m args below meth c E ad S C D0 27 C M [(0, .ref (ad 55)), (1, .int x1), (2, .int x2), (3, .int x3), (4, .int x4), (5, .int x5), (6, .int x6)] [] := by
  intro n
  induction n with
  | zero => exact fun _ _ o h => (lp_zero h).elim
  | succ n ih =>
    intro M x6 o h K
    obtain ⟨o1, hb, h2⟩ := lp_some h
    replace hb : f_X9_viewsFrom_l27 N rc  x1 x2 x3 x4 x5 M x6 = some o1 := hb
    clear h
    have Kc : ∀ (Dy : wg_M) (y6 : Int32), o1 = Sum.inl (Dy, y6) → G_X9_viewsFrom d p l e s m args below meth c E ad S C D0 27 C Dy [(0, .ref (ad 55)), (1, .int x1), (2, .int x2), (3, .int x3), (4, .int x4), (5, .int x5), (6, .int y6)] [] := fun Dy y6 e1 => by
      subst e1
      exact ih Dy y6 o h2 K
    have Ke : ∀ (Dy : wg_M) (y6 : Int32), o1 = Sum.inr ((Dy, y6)) → G_X9_viewsFrom d p l e s m args below meth c E ad S C D0 99 C Dy [(0, .ref (ad 55)), (1, .int x1), (2, .int x2), (3, .int x3), (4, .int x4), (5, .int x5), (6, .int y6)] [] := fun Dy y6 e1 => by
      subst e1
      exact K Dy y6 (sm_inj (α := (wg_M × Int32)) h2).symm
    clear ih K h2
    unfold f_X9_viewsFrom_l27 at hb
    have h := hb
    clear hb
    refine wg_iload X 6 dX9_viewsFrom_27 rfl ?_
    refine wg_aload_n X 0 dX9_viewsFrom_29 rfl rfl ?_
    refine wg_getM X cl9 (SMi hS 55 9 rfl) 13 (by decide) dX9_viewsFrom_30 k_895 rfl ?_
    refine wg_icmp_ge X 99 dX9_viewsFrom_33 (by decide) (fun c2 => ?_) (fun c2 => ?_)
    · have h := if_t c2 h
      exact Ke M x6 (sm_inj h).symm
    · have h := if_f c2 h
      refine wg_iload_n X 2 dX9_viewsFrom_36 rfl rfl ?_
      refine wg_iload X 6 dX9_viewsFrom_37 rfl ?_
      refine wg_ishr X dX9_viewsFrom_39 ?_
      refine wg_iconst (v := 1) X dX9_viewsFrom_40 (by decide) ?_
      refine wg_iand X dX9_viewsFrom_41 ?_
      refine wg_if_ne X 93 dX9_viewsFrom_42 (by decide) (fun c3 => ?_) (fun c3 => ?_)
      · have h := if_f c3 h
        obtain ⟨v4, e5, h⟩ := lt_some h
        refine wg_iinc (lv' := [(6, .int v4), (0, .ref (ad 55)), (1, .int x1), (2, .int x2), (3, .int x3), (4, .int x4), (5, .int x5)]) X 6 dX9_viewsFrom_93 rfl e5 (by decide) rfl ?_
        refine wg_goto X 27 dX9_viewsFrom_96 (by decide) ?_
        refine wg_pick [1, 2, 3, 4, 5, 6, 0] (lv' := [(0, .ref (ad 55)), (1, .int x1), (2, .int x2), (3, .int x3), (4, .int x4), (5, .int x5), (6, .int v4)]) rfl ?_
        exact Kc M v4 (sm_inj h).symm
      · have h := if_t c3 h
        refine wg_aload_n X 0 dX9_viewsFrom_45 rfl rfl ?_
        refine wg_iload X 6 dX9_viewsFrom_46 rfl ?_
        refine wg_iload X 5 dX9_viewsFrom_48 rfl ?_
        refine wg_iconst (v := 0) X dX9_viewsFrom_50 (by decide) ?_
        obtain ⟨r7, h6, h⟩ := bd_some h
        refine wg_callVi (As := [.int x6, .int x5, .int (0 : Int32)]) (rest := []) X (c_X9_passes l E ad S hS C M x6 x5 (0 : Int32)  h6) T_yX9_passes k_1066 cl9 (SMi hS 55 9 rfl) dX9_viewsFrom_51 rfl rfl (Nat.le_of_ble_eq_true rfl) ⟨show 2 + 1 ≤ d + 101 by omega, show 8 + (5 + 11) + 45 ≤ 40 * (d + 1) + 6000 by omega⟩ ⟨Nat.zero_le _, Nat.zero_le _⟩ ?_
        refine wg_if_eq X 93 dX9_viewsFrom_54 (by decide) (fun c8 => ?_) (fun c8 => ?_)
        · have h := if_t c8 h
          obtain ⟨v9, e10, h⟩ := lt_some h
          refine wg_iinc (lv' := [(6, .int v9), (0, .ref (ad 55)), (1, .int x1), (2, .int x2), (3, .int x3), (4, .int x4), (5, .int x5)]) X 6 dX9_viewsFrom_93 rfl e10 (by decide) rfl ?_
          refine wg_goto X 27 dX9_viewsFrom_96 (by decide) ?_
          refine wg_pick [1, 2, 3, 4, 5, 6, 0] (lv' := [(0, .ref (ad 55)), (1, .int x1), (2, .int x2), (3, .int x3), (4, .int x4), (5, .int x5), (6, .int v9)]) rfl ?_
          exact Kc M v9 (sm_inj h).symm
        · have h := if_f c8 h
          refine wg_aload_n X 0 dX9_viewsFrom_57 rfl rfl ?_
          refine wg_iload_n X 1 dX9_viewsFrom_58 rfl rfl ?_
          refine wg_iconst (v := 1) X dX9_viewsFrom_59 (by decide) ?_
          refine wg_isub X dX9_viewsFrom_60 ?_
          refine wg_iload_n X 2 dX9_viewsFrom_61 rfl rfl ?_
          refine wg_iconst (v := 1) X dX9_viewsFrom_62 (by decide) ?_
          refine wg_iload X 6 dX9_viewsFrom_63 rfl ?_
          refine wg_ishl X dX9_viewsFrom_65 ?_
          refine wg_ior X dX9_viewsFrom_66 ?_
          refine wg_iload_n X 3 dX9_viewsFrom_67 rfl rfl ?_
          refine wg_aload_n X 0 dX9_viewsFrom_68 rfl rfl ?_
          refine wg_iconst (v := 2) X dX9_viewsFrom_69 (by decide) ?_
          refine wg_iload X 6 dX9_viewsFrom_70 rfl ?_
          refine wg_iload X 5 dX9_viewsFrom_72 rfl ?_
          obtain ⟨r12, M13, h11, h⟩ := bd2_some h
          refine wg_callVi (As := [.int (2 : Int32), .int x6, .int x5]) (rest := [.int x3, .int (x2 ||| ((1 : Int32) <<< (x6 &&& 31))), .int (x1 - (1 : Int32)), .ref (ad 55)]) X (c_X9_says l E ad S hS N C M (2 : Int32) x6 x5  h11) T_yX9_says k_1166 cl9 (SMi hS 55 9 rfl) dX9_viewsFrom_74 rfl rfl (Nat.le_of_ble_eq_true rfl) ⟨show 75 + 1 ≤ d + 101 by omega, show 8 + (5 + 11) + 2929 ≤ 40 * (d + 1) + 6000 by omega⟩ ⟨Nat.zero_le _, Nat.zero_le _⟩ ?_
          refine wg_iadd X dX9_viewsFrom_77 ?_
          refine wg_bipush (v := 10) X dX9_viewsFrom_78 (by decide) ?_
          refine wg_iload X 4 dX9_viewsFrom_80 rfl ?_
          refine wg_imul X dX9_viewsFrom_82 ?_
          refine wg_iload X 6 dX9_viewsFrom_83 rfl ?_
          refine wg_iadd X dX9_viewsFrom_85 ?_
          refine wg_iconst (v := 1) X dX9_viewsFrom_86 (by decide) ?_
          refine wg_iadd X dX9_viewsFrom_87 ?_
          refine wg_iload X 5 dX9_viewsFrom_88 rfl ?_
          obtain ⟨M15, h14, h⟩ := bd_some h
          refine wg_callVv (As := [.int (x1 - (1 : Int32)), .int (x2 ||| ((1 : Int32) <<< (x6 &&& 31))), .int (x3 + r12), .int ((((10 : Int32) * x4) + x6) + (1 : Int32)), .int x5]) (rest := []) X (show wg_Cv l yX9_viewsFrom cX9_viewsFrom 7 none (d + 100) (40 * d + 6000) E ad S C M13 [.ref (ad 55), .int (x1 - (1 : Int32)), .int (x2 ||| ((1 : Int32) <<< (x6 &&& 31))), .int (x3 + r12), .int ((((10 : Int32) * x4) + x6) + (1 : Int32)), .int x5] C M15 from hrc 0 M13 (x1 - (1 : Int32)) (x2 ||| ((1 : Int32) <<< (x6 &&& 31))) (x3 + r12) ((((10 : Int32) * x4) + x6) + (1 : Int32)) x5 M15 h14) T_yX9_viewsFrom k_1270 cl9 (SMi hS 55 9 rfl) dX9_viewsFrom_90 rfl rfl (Nat.le_of_ble_eq_true rfl) ⟨show (d + 100) + 1 ≤ d + 101 by omega, show 8 + (7 + 11) + (40 * d + 6000) ≤ 40 * (d + 1) + 6000 by omega⟩ ⟨Nat.zero_le _, Nat.zero_le _⟩ ?_
          obtain ⟨v16, e17, h⟩ := lt_some h
          refine wg_iinc (lv' := [(6, .int v16), (0, .ref (ad 55)), (1, .int x1), (2, .int x2), (3, .int x3), (4, .int x4), (5, .int x5)]) X 6 dX9_viewsFrom_93 rfl e17 (by decide) rfl ?_
          refine wg_goto X 27 dX9_viewsFrom_96 (by decide) ?_
          refine wg_pick [1, 2, 3, 4, 5, 6, 0] (lv' := [(0, .ref (ad 55)), (1, .int x1), (2, .int x2), (3, .int x3), (4, .int x4), (5, .int x5), (6, .int v16)]) rfl ?_
          exact Kc M15 v16 (sm_inj h).symm
set_option maxHeartbeats 4000000 in
set_option maxRecDepth 100000 in
theorem c_X9_viewsFrom (l : Launch) (E : wg_Ev) (ad : Nat → Nat) (S : wg_Sh) (hS : wg_SM S) (N : Nat) (d : Nat) (rc : Nat → wg_M → Int32 → Int32 → Int32 → Int32 → Int32 → Option wg_M) (C : wg_C) (hrc : ∀ (k : Nat) (D : wg_M) (i0 i1 i2 i3 i4 : Int32) (D0 : wg_M), rc k D i0 i1 i2 i3 i4 = some D0 → R_X9v l E ad S C d k D i0 i1 i2 i3 i4 D0) (M : wg_M) (p1 : Int32) (p2 : Int32) (p3 : Int32) (p4 : Int32) (p5 : Int32)  {D0 : wg_M} (h : f_X9_viewsFrom N rc M p1 p2 p3 p4 p5 = some D0) : wg_Cv l yX9_viewsFrom cX9_viewsFrom 7 none (d + 101) (40 * (d + 1) + 6000) E ad S C M [.ref (ad 55), .int p1, .int p2, .int p3, .int p4, .int p5] C D0 := by
  refine wg_start (own := RX9) (by decide +kernel) rfl (Nat.le_of_ble_eq_true rfl) ?_
  intro p e s m below meth c X hr hnm
  refine wg_lv (lv' := [(0, .ref (ad 55)), (1, .int p1), (2, .int p2), (3, .int p3), (4, .int p4), (5, .int p5)]) rfl ?_
  unfold f_X9_viewsFrom at h
  refine wg_iload_n X 1 dX9_viewsFrom_0 rfl rfl ?_
  refine wg_if_ne X 24 dX9_viewsFrom_1 (by decide) (fun c1 => ?_) (fun c1 => ?_)
  · have h := if_f c1 h
    refine wg_iconst (v := 0) X dX9_viewsFrom_24 (by decide) ?_
    refine wg_istore (lv' := [(6, .int (0 : Int32)), (0, .ref (ad 55)), (1, .int p1), (2, .int p2), (3, .int p3), (4, .int p4), (5, .int p5)]) X dX9_viewsFrom_25 rfl (by decide) rfl ?_
    obtain ⟨o20, h21, h⟩ := bd2_o h
    refine wg_pick [1, 2, 3, 4, 5, 6, 0] (lv' := [(0, .ref (ad 55)), (1, .int p1), (2, .int p2), (3, .int p3), (4, .int p4), (5, .int p5), (6, .int (0 : Int32))]) rfl ?_
    refine L_X9_viewsFrom_l27 X hr hS D0 C N d rc hrc   p1 p2 p3 p4 p5  N M (0 : Int32) o20 h21 (fun M18 v19 e23 => ?_)
    · subst o20
      replace h := bd2_in h
      exact wg_vret X ⟨rfl, (sm_inj h)⟩ hr dX9_viewsFrom_99
  · have h := if_t c1 h
    refine wg_iload_n X 3 dX9_viewsFrom_4 rfl rfl ?_
    refine wg_aload_n X 0 dX9_viewsFrom_5 rfl rfl ?_
    refine wg_getM X cl9 (SMi hS 55 9 rfl) 33 (by decide) dX9_viewsFrom_6 k_915 rfl ?_
    refine wg_icmp_le X 23 dX9_viewsFrom_9 (by decide) (fun c24 => ?_) (fun c24 => ?_)
    · have h := if_t c24 h
      exact wg_vret X ⟨rfl, (sm_inj h)⟩ hr dX9_viewsFrom_23
    · have h := if_f c24 h
      refine wg_aload_n X 0 dX9_viewsFrom_12 rfl rfl ?_
      refine wg_iload_n X 3 dX9_viewsFrom_13 rfl rfl ?_
      obtain ⟨M25, e26, h⟩ := lt_some h
      refine wg_putMe X cl9 (SMi hS 55 9 rfl) 33 (by decide) dX9_viewsFrom_14 k_915 rfl rfl rfl rfl e26 ?_
      refine wg_aload_n X 0 dX9_viewsFrom_17 rfl rfl ?_
      refine wg_iload X 4 dX9_viewsFrom_18 rfl ?_
      obtain ⟨M27, e28, h⟩ := lt_some h
      refine wg_putMe X cl9 (SMi hS 55 9 rfl) 34 (by decide) dX9_viewsFrom_20 k_916 rfl rfl rfl rfl e28 ?_
      exact wg_vret X ⟨rfl, (sm_inj h)⟩ hr dX9_viewsFrom_23
