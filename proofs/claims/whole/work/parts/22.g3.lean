-- WindowsGiveModel.set(III)I (('c', 55), 'i', 'i', 'i')
def f_X9_set_j65 (M : wg_M)  (x1 : Int32) (x2 : Int32) (x3 : Int32) (s0 : Int64) (s1 : Int64) (s2 : Int64) : Option (Int32 × wg_M) :=
  bd (f_X9_in s2 s1 s0) fun r11 =>
  if r11 = 0 then (
    some ((-100 : Int32), M))
  else (
    bd (f_X9_told M x2 x1) fun r14 =>
    if x1 = 0 then (
      ck (inb x2 32) <|
      lt_ (wg_sM M 59 x2.toNatClampNeg x3) fun M32 =>
      some (r14, M32))
    else (
      if x1 = (1 : Int32) then (
        ck (inb x2 8) <|
        lt_ (wg_sM M 61 x2.toNatClampNeg x3) fun M29 =>
        some (r14, M29))
      else (
        if x1 = (2 : Int32) then (
          ck (inb x2 8) <|
          lt_ (wg_sM M 62 x2.toNatClampNeg x3) fun M26 =>
          some (r14, M26))
        else (
          if x1 = (3 : Int32) then (
            ck (inb x2 8) <|
            lt_ (wg_sM M 63 x2.toNatClampNeg x3) fun M23 =>
            some (r14, M23))
          else (
            ck (inb x2 8) <|
            lt_ (wg_sM M 64 x2.toNatClampNeg x3) fun M20 =>
            some (r14, M20))))))
def f_X9_set_j51 (M : wg_M)  (x1 : Int32) (x2 : Int32) (x3 : Int32) (s0 : Int64) (s1 : Int64) : Option (Int32 × wg_M) :=
  if x1 ≤ (2 : Int32) then (
    f_X9_set_j65 M  x1 x2 x3 (9 : Int64) s0 s1)
  else (
    f_X9_set_j65 M  x1 x2 x3 (5 : Int64) s0 s1)
def f_X9_set_j37 (M : wg_M)  (x1 : Int32) (x2 : Int32) (x3 : Int32) : Option (Int32 × wg_M) :=
  if x1 = (2 : Int32) then (
    f_X9_set_j51 M  x1 x2 x3 (-9 : Int64) x3.toInt64)
  else (
    f_X9_set_j51 M  x1 x2 x3 (0 : Int64) x3.toInt64)
def f_X9_set (M : wg_M) (p1 : Int32) (p2 : Int32) (p3 : Int32) : Option (Int32 × wg_M) :=
  bd (f_X9_in p1.toInt64 (0 : Int64) (4 : Int64)) fun r2 =>
  if r2 = 0 then (
    some ((-100 : Int32), M))
  else (
    if p1 = 0 then (
      bd (f_X9_isDay p2) fun r35 =>
      if r35 = 0 then (
        some ((-100 : Int32), M))
      else (
        f_X9_set_j37 M  p1 p2 p3))
    else (
      bd (f_X9_isPane M p2) fun r6 =>
      if r6 = 0 then (
        some ((-100 : Int32), M))
      else (
        f_X9_set_j37 M  p1 p2 p3)))
abbrev G_X9_set (p : Program) (l : Launch) (e : Env) (s : State) (m : MethodId) (args : Array Value) (below : List Frame) (meth : Method) (c : Code) (E : wg_Ev) (ad : Nat → Nat) (S : wg_Sh) (r0 : Int32) (C0 : wg_C) (M0 : wg_M) (pc : Nat) (C : wg_C) (M : wg_M) (lv : List (Nat × Value)) (st : List Value) : Prop := wg_G p l e (wg_Rm 3 68) s m args below meth c (MQ below (wg_Qi E ad S r0 C0 M0) args s 0 0 (wg_A E)) 5 E ad S 0 0 pc C M lv st
set_option maxHeartbeats 4000000 in
set_option maxRecDepth 100000 in
theorem J_X9_set_j65 {p : Program} {l : Launch} {e : Env} {s : State} {m : MethodId} {args : Array Value} {below : List Frame} {meth : Method} {c : Code} {E : wg_Ev} {ad : Nat → Nat} {S : wg_Sh} (X : wg_X p s m args meth c cX9_set 5 RX9 E) (hr : meth.sig.returnType = (some .int)) (hS : wg_SM S) (r0 : Int32) (D0 : wg_M) (C : wg_C)  (M : wg_M)  (x1 : Int32) (x2 : Int32) (x3 : Int32) (s0 : Int64) (s1 : Int64) (s2 : Int64)   (h : f_X9_set_j65 M  x1 x2 x3 s0 s1 s2 = some (r0, D0)) : G_X9_set p l e s m args below meth c E ad S r0 C D0 65 C M [(0, .ref (ad 55)), (1, .int x1), (2, .int x2), (3, .int x3)] [.long s0, .long s1, .long s2] := by
  unfold f_X9_set_j65 at h
  obtain ⟨r11, h10, h⟩ := bd_some h
  refine wg_callSi (As := [.long s2, .long s1, .long s0]) (rest := []) X (c_X9_in l E ad S C M s2 s1 s0  h10) T_yX9_in k_1021 dX9_set_65 rfl rfl (Nat.le_of_ble_eq_true rfl) ⟨Nat.le_of_ble_eq_true rfl, Nat.le_of_ble_eq_true rfl⟩ ⟨Nat.zero_le _, Nat.zero_le _⟩ ?_
  refine wg_if_ne X 74 dX9_set_68 (by decide) (fun c12 => ?_) (fun c12 => ?_)
  · have h := if_f c12 h
    refine wg_aload_n X 0 dX9_set_74 rfl rfl ?_
    refine wg_iload_n X 2 dX9_set_75 rfl rfl ?_
    refine wg_iload_n X 1 dX9_set_76 rfl rfl ?_
    obtain ⟨r14, h13, h⟩ := bd_some h
    refine wg_callVi (As := [.int x2, .int x1]) (rest := []) X (c_X9_told l E ad S hS C M x2 x1  h13) T_yX9_told k_1035 cl9 (SMi hS 55 9 rfl) dX9_set_77 rfl rfl (Nat.le_of_ble_eq_true rfl) ⟨Nat.le_of_ble_eq_true rfl, Nat.le_of_ble_eq_true rfl⟩ ⟨Nat.zero_le _, Nat.zero_le _⟩ ?_
    refine wg_istore (lv' := [(4, .int r14), (0, .ref (ad 55)), (1, .int x1), (2, .int x2), (3, .int x3)]) X dX9_set_80 rfl (by decide) rfl ?_
    refine wg_iload_n X 2 dX9_set_82 rfl rfl ?_
    refine wg_if_ne X 96 dX9_set_83 (by decide) (fun c15 => ?_) (fun c15 => ?_)
    · have h := if_f c15 h
      refine wg_iload_n X 2 dX9_set_96 rfl rfl ?_
      refine wg_iconst (v := 1) X dX9_set_97 (by decide) ?_
      refine wg_icmp_ne X 111 dX9_set_98 (by decide) (fun c16 => ?_) (fun c16 => ?_)
      · have h := if_f c16 h
        refine wg_iload_n X 2 dX9_set_111 rfl rfl ?_
        refine wg_iconst (v := 2) X dX9_set_112 (by decide) ?_
        refine wg_icmp_ne X 126 dX9_set_113 (by decide) (fun c17 => ?_) (fun c17 => ?_)
        · have h := if_f c17 h
          refine wg_iload_n X 2 dX9_set_126 rfl rfl ?_
          refine wg_iconst (v := 3) X dX9_set_127 (by decide) ?_
          refine wg_icmp_ne X 141 dX9_set_128 (by decide) (fun c18 => ?_) (fun c18 => ?_)
          · have h := if_f c18 h
            refine wg_aload_n X 1 dX9_set_141 rfl rfl ?_
            refine wg_getR (b := 64) X cl9 (SMi hS 55 9 rfl) 12 (by decide) dX9_set_142 k_894 rfl (SMr hS 12 64 rfl) ?_
            refine wg_iload_n X 3 dX9_set_145 rfl rfl ?_
            refine wg_iload_n X 4 dX9_set_146 rfl rfl ?_
            obtain ⟨z19, h⟩ := ck_some h
            obtain ⟨M20, e21, h⟩ := lt_some h
            refine wg_maste X (SMi hS 64 11 rfl) (SMl hS 64 8 rfl) z19 dX9_set_147 e21 ?_
            refine wg_iload X 0 dX9_set_148 rfl ?_
            exact wg_iret X ⟨(Prod.mk.inj (sm_inj h)).1, rfl, (Prod.mk.inj (sm_inj h)).2⟩ hr dX9_set_150
          · have h := if_t c18 h
            refine wg_aload_n X 1 dX9_set_131 rfl rfl ?_
            refine wg_getR (b := 63) X cl9 (SMi hS 55 9 rfl) 11 (by decide) dX9_set_132 k_893 rfl (SMr hS 11 63 rfl) ?_
            refine wg_iload_n X 3 dX9_set_135 rfl rfl ?_
            refine wg_iload_n X 4 dX9_set_136 rfl rfl ?_
            obtain ⟨z22, h⟩ := ck_some h
            obtain ⟨M23, e24, h⟩ := lt_some h
            refine wg_maste X (SMi hS 63 11 rfl) (SMl hS 63 8 rfl) z22 dX9_set_137 e24 ?_
            refine wg_goto X 148 dX9_set_138 (by decide) ?_
            refine wg_iload X 0 dX9_set_148 rfl ?_
            exact wg_iret X ⟨(Prod.mk.inj (sm_inj h)).1, rfl, (Prod.mk.inj (sm_inj h)).2⟩ hr dX9_set_150
        · have h := if_t c17 h
          refine wg_aload_n X 1 dX9_set_116 rfl rfl ?_
          refine wg_getR (b := 62) X cl9 (SMi hS 55 9 rfl) 10 (by decide) dX9_set_117 k_892 rfl (SMr hS 10 62 rfl) ?_
          refine wg_iload_n X 3 dX9_set_120 rfl rfl ?_
          refine wg_iload_n X 4 dX9_set_121 rfl rfl ?_
          obtain ⟨z25, h⟩ := ck_some h
          obtain ⟨M26, e27, h⟩ := lt_some h
          refine wg_maste X (SMi hS 62 11 rfl) (SMl hS 62 8 rfl) z25 dX9_set_122 e27 ?_
          refine wg_goto X 148 dX9_set_123 (by decide) ?_
          refine wg_iload X 0 dX9_set_148 rfl ?_
          exact wg_iret X ⟨(Prod.mk.inj (sm_inj h)).1, rfl, (Prod.mk.inj (sm_inj h)).2⟩ hr dX9_set_150
      · have h := if_t c16 h
        refine wg_aload_n X 1 dX9_set_101 rfl rfl ?_
        refine wg_getR (b := 61) X cl9 (SMi hS 55 9 rfl) 9 (by decide) dX9_set_102 k_891 rfl (SMr hS 9 61 rfl) ?_
        refine wg_iload_n X 3 dX9_set_105 rfl rfl ?_
        refine wg_iload_n X 4 dX9_set_106 rfl rfl ?_
        obtain ⟨z28, h⟩ := ck_some h
        obtain ⟨M29, e30, h⟩ := lt_some h
        refine wg_maste X (SMi hS 61 11 rfl) (SMl hS 61 8 rfl) z28 dX9_set_107 e30 ?_
        refine wg_goto X 148 dX9_set_108 (by decide) ?_
        refine wg_iload X 0 dX9_set_148 rfl ?_
        exact wg_iret X ⟨(Prod.mk.inj (sm_inj h)).1, rfl, (Prod.mk.inj (sm_inj h)).2⟩ hr dX9_set_150
    · have h := if_t c15 h
      refine wg_aload_n X 1 dX9_set_86 rfl rfl ?_
      refine wg_getR (b := 59) X cl9 (SMi hS 55 9 rfl) 7 (by decide) dX9_set_87 k_889 rfl (SMr hS 7 59 rfl) ?_
      refine wg_iload_n X 3 dX9_set_90 rfl rfl ?_
      refine wg_iload_n X 4 dX9_set_91 rfl rfl ?_
      obtain ⟨z31, h⟩ := ck_some h
      obtain ⟨M32, e33, h⟩ := lt_some h
      refine wg_maste X (SMi hS 59 11 rfl) (SMl hS 59 32 rfl) z31 dX9_set_92 e33 ?_
      refine wg_goto X 148 dX9_set_93 (by decide) ?_
      refine wg_iload X 0 dX9_set_148 rfl ?_
      exact wg_iret X ⟨(Prod.mk.inj (sm_inj h)).1, rfl, (Prod.mk.inj (sm_inj h)).2⟩ hr dX9_set_150
  · have h := if_t c12 h
    refine wg_bipush (v := -100) X dX9_set_71 (by decide) ?_
    exact wg_iret X ⟨(Prod.mk.inj (sm_inj h)).1, rfl, (Prod.mk.inj (sm_inj h)).2⟩ hr dX9_set_73
set_option maxHeartbeats 4000000 in
set_option maxRecDepth 100000 in
theorem J_X9_set_j51 {p : Program} {l : Launch} {e : Env} {s : State} {m : MethodId} {args : Array Value} {below : List Frame} {meth : Method} {c : Code} {E : wg_Ev} {ad : Nat → Nat} {S : wg_Sh} (X : wg_X p s m args meth c cX9_set 5 RX9 E) (hr : meth.sig.returnType = (some .int)) (hS : wg_SM S) (r0 : Int32) (D0 : wg_M) (C : wg_C)  (M : wg_M)  (x1 : Int32) (x2 : Int32) (x3 : Int32) (s0 : Int64) (s1 : Int64)   (h : f_X9_set_j51 M  x1 x2 x3 s0 s1 = some (r0, D0)) : G_X9_set p l e s m args below meth c E ad S r0 C D0 51 C M [(0, .ref (ad 55)), (1, .int x1), (2, .int x2), (3, .int x3)] [.long s0, .long s1] := by
  unfold f_X9_set_j51 at h
  refine wg_iload_n X 1 dX9_set_51 rfl rfl ?_
  refine wg_iconst (v := 2) X dX9_set_52 (by decide) ?_
  refine wg_icmp_le X 62 dX9_set_53 (by decide) (fun c9 => ?_) (fun c9 => ?_)
  · have h := if_t c9 h
    refine wg_ldc2 (v := 9) X dX9_set_62 k_1034 ?_
    exact J_X9_set_j65 X hr hS r0 D0 C  M  x1 x2 x3 (9 : Int64) s0 s1   h
  · have h := if_f c9 h
    refine wg_ldc2 (v := 5) X dX9_set_56 k_1033 ?_
    refine wg_goto X 65 dX9_set_59 (by decide) ?_
    exact J_X9_set_j65 X hr hS r0 D0 C  M  x1 x2 x3 (5 : Int64) s0 s1   h
set_option maxHeartbeats 4000000 in
set_option maxRecDepth 100000 in
theorem J_X9_set_j37 {p : Program} {l : Launch} {e : Env} {s : State} {m : MethodId} {args : Array Value} {below : List Frame} {meth : Method} {c : Code} {E : wg_Ev} {ad : Nat → Nat} {S : wg_Sh} (X : wg_X p s m args meth c cX9_set 5 RX9 E) (hr : meth.sig.returnType = (some .int)) (hS : wg_SM S) (r0 : Int32) (D0 : wg_M) (C : wg_C)  (M : wg_M)  (x1 : Int32) (x2 : Int32) (x3 : Int32)   (h : f_X9_set_j37 M  x1 x2 x3 = some (r0, D0)) : G_X9_set p l e s m args below meth c E ad S r0 C D0 37 C M [(0, .ref (ad 55)), (1, .int x1), (2, .int x2), (3, .int x3)] [] := by
  unfold f_X9_set_j37 at h
  refine wg_iload_n X 3 dX9_set_37 rfl rfl ?_
  refine wg_i2l X dX9_set_38 ?_
  refine wg_iload_n X 1 dX9_set_39 rfl rfl ?_
  refine wg_iconst (v := 2) X dX9_set_40 (by decide) ?_
  refine wg_icmp_ne X 50 dX9_set_41 (by decide) (fun c8 => ?_) (fun c8 => ?_)
  · have h := if_f c8 h
    refine wg_lconst (v := 0) X dX9_set_50 (by decide) ?_
    exact J_X9_set_j51 X hr hS r0 D0 C  M  x1 x2 x3 (0 : Int64) x3.toInt64   h
  · have h := if_t c8 h
    refine wg_ldc2 (v := -9) X dX9_set_44 k_1032 ?_
    refine wg_goto X 51 dX9_set_47 (by decide) ?_
    exact J_X9_set_j51 X hr hS r0 D0 C  M  x1 x2 x3 (-9 : Int64) x3.toInt64   h
set_option maxHeartbeats 4000000 in
set_option maxRecDepth 100000 in
theorem c_X9_set (l : Launch) (E : wg_Ev) (ad : Nat → Nat) (S : wg_Sh) (hS : wg_SM S) (C : wg_C) (M : wg_M) (p1 : Int32) (p2 : Int32) (p3 : Int32)  {r0 : Int32} {D0 : wg_M} (h : f_X9_set M p1 p2 p3 = some (r0, D0)) : wg_Ci l yX9_set cX9_set 5 (some .int) 3 68 E ad S C M [.ref (ad 55), .int p1, .int p2, .int p3] r0 C D0 := by
  refine wg_start (own := RX9) (by decide +kernel) rfl (Nat.le_of_ble_eq_true rfl) ?_
  intro p e s m below meth c X hr hnm
  refine wg_lv (lv' := [(0, .ref (ad 55)), (1, .int p1), (2, .int p2), (3, .int p3)]) rfl ?_
  unfold f_X9_set at h
  refine wg_iload_n X 1 dX9_set_0 rfl rfl ?_
  refine wg_i2l X dX9_set_1 ?_
  refine wg_lconst (v := 0) X dX9_set_2 (by decide) ?_
  refine wg_ldc2 (v := 4) X dX9_set_3 k_1020 ?_
  obtain ⟨r2, h1, h⟩ := bd_some h
  refine wg_callSi (As := [.long (p1.toInt64), .long (0 : Int64), .long (4 : Int64)]) (rest := []) X (c_X9_in l E ad S C M p1.toInt64 (0 : Int64) (4 : Int64)  h1) T_yX9_in k_1021 dX9_set_6 rfl rfl (Nat.le_of_ble_eq_true rfl) ⟨Nat.le_of_ble_eq_true rfl, Nat.le_of_ble_eq_true rfl⟩ ⟨Nat.zero_le _, Nat.zero_le _⟩ ?_
  refine wg_if_eq X 34 dX9_set_9 (by decide) (fun c3 => ?_) (fun c3 => ?_)
  · have h := if_t c3 h
    refine wg_bipush (v := -100) X dX9_set_34 (by decide) ?_
    exact wg_iret X ⟨(Prod.mk.inj (sm_inj h)).1, rfl, (Prod.mk.inj (sm_inj h)).2⟩ hr dX9_set_36
  · have h := if_f c3 h
    refine wg_iload_n X 1 dX9_set_12 rfl rfl ?_
    refine wg_if_ne X 26 dX9_set_13 (by decide) (fun c4 => ?_) (fun c4 => ?_)
    · have h := if_f c4 h
      refine wg_aload_n X 0 dX9_set_26 rfl rfl ?_
      refine wg_iload_n X 2 dX9_set_27 rfl rfl ?_
      obtain ⟨r6, h5, h⟩ := bd_some h
      refine wg_callVi (As := [.int p2]) (rest := []) X (c_X9_isPane l E ad S hS C M p2  h5) T_yX9_isPane k_1028 cl9 (SMi hS 55 9 rfl) dX9_set_28 rfl rfl (Nat.le_of_ble_eq_true rfl) ⟨Nat.le_of_ble_eq_true rfl, Nat.le_of_ble_eq_true rfl⟩ ⟨Nat.zero_le _, Nat.zero_le _⟩ ?_
      refine wg_if_ne X 37 dX9_set_31 (by decide) (fun c7 => ?_) (fun c7 => ?_)
      · have h := if_f c7 h
        exact J_X9_set_j37 X hr hS r0 D0 C  M  p1 p2 p3   h
      · have h := if_t c7 h
        refine wg_bipush (v := -100) X dX9_set_34 (by decide) ?_
        exact wg_iret X ⟨(Prod.mk.inj (sm_inj h)).1, rfl, (Prod.mk.inj (sm_inj h)).2⟩ hr dX9_set_36
    · have h := if_t c4 h
      refine wg_iload_n X 2 dX9_set_16 rfl rfl ?_
      obtain ⟨r35, h34, h⟩ := bd_some h
      refine wg_callSi (As := [.int p2]) (rest := []) X (c_X9_isDay l E ad S C M p2  h34) T_yX9_isDay k_1024 dX9_set_17 rfl rfl (Nat.le_of_ble_eq_true rfl) ⟨Nat.le_of_ble_eq_true rfl, Nat.le_of_ble_eq_true rfl⟩ ⟨Nat.zero_le _, Nat.zero_le _⟩ ?_
      refine wg_if_eq X 34 dX9_set_20 (by decide) (fun c36 => ?_) (fun c36 => ?_)
      · have h := if_t c36 h
        refine wg_bipush (v := -100) X dX9_set_34 (by decide) ?_
        exact wg_iret X ⟨(Prod.mk.inj (sm_inj h)).1, rfl, (Prod.mk.inj (sm_inj h)).2⟩ hr dX9_set_36
      · have h := if_f c36 h
        refine wg_goto X 37 dX9_set_23 (by decide) ?_
        exact J_X9_set_j37 X hr hS r0 D0 C  M  p1 p2 p3   h
-- WindowsGiveModel.pane(III)I (('c', 55), 'i', 'i', 'i')
def f_X9_pane (M : wg_M) (p1 : Int32) (p2 : Int32) (p3 : Int32) : Option (Int32 × wg_M) :=
  bd (f_X9_in p1.toInt64 (0 : Int64) (5 : Int64)) fun r2 =>
  if r2 = 0 then (
    some ((-2 : Int32), M))
  else (
    bd (f_X9_in p2.toInt64 (0 : Int64) (918 : Int64)) fun r5 =>
    if r5 = 0 then (
      some ((-2 : Int32), M))
    else (
      if (18 : Int32) < (p2 - p2 / (100 : Int32) * (100 : Int32)) then (
        some ((-2 : Int32), M))
      else (
        bd (f_X9_in p3.toInt64 (0 : Int64) (55 : Int64)) fun r9 =>
        if r9 = 0 then (
          some ((-2 : Int32), M))
        else (
          bd (f_X9_isRoom (p3 - p3 / (10 : Int32) * (10 : Int32))) fun r12 =>
          if r12 = 0 then (
            some ((-2 : Int32), M))
          else (
            if (M.1 55 13) = (8 : Int32) then (
              some ((-4 : Int32), M))
            else (
              ck (inb (M.1 55 13) 8) <|
              lt_ (wg_sM M 60 (M.1 55 13).toNatClampNeg p1) fun M16 =>
              ck (inb (M16.1 55 13) 8) <|
              lt_ (wg_sM M16 61 (M16.1 55 13).toNatClampNeg (p2 / (100 : Int32))) fun M19 =>
              ck (inb (M19.1 55 13) 8) <|
              lt_ (wg_sM M19 62 (M19.1 55 13).toNatClampNeg ((p2 - p2 / (100 : Int32) * (100 : Int32)) - (9 : Int32))) fun M22 =>
              ck (inb (M22.1 55 13) 8) <|
              lt_ (wg_sM M22 63 (M22.1 55 13).toNatClampNeg (p3 / (10 : Int32))) fun M25 =>
              ck (inb (M25.1 55 13) 8) <|
              lt_ (wg_sM M25 64 (M25.1 55 13).toNatClampNeg (p3 - p3 / (10 : Int32) * (10 : Int32))) fun M28 =>
              lt_ (wg_sM M28 55 13 ((M28.1 55 13) + (1 : Int32))) fun M30 =>
              some (((M30.1 55 13) - (1 : Int32)), M30)))))))
set_option maxHeartbeats 4000000 in
set_option maxRecDepth 100000 in
theorem c_X9_pane (l : Launch) (E : wg_Ev) (ad : Nat → Nat) (S : wg_Sh) (hS : wg_SM S) (C : wg_C) (M : wg_M) (p1 : Int32) (p2 : Int32) (p3 : Int32)  {r0 : Int32} {D0 : wg_M} (h : f_X9_pane M p1 p2 p3 = some (r0, D0)) : wg_Ci l yX9_pane cX9_pane 4 (some .int) 2 45 E ad S C M [.ref (ad 55), .int p1, .int p2, .int p3] r0 C D0 := by
  refine wg_start (own := RX9) (by decide +kernel) rfl (Nat.le_of_ble_eq_true rfl) ?_
  intro p e s m below meth c X hr hnm
  refine wg_lv (lv' := [(0, .ref (ad 55)), (1, .int p1), (2, .int p2), (3, .int p3)]) rfl ?_
  unfold f_X9_pane at h
  refine wg_iload_n X 1 dX9_pane_0 rfl rfl ?_
  refine wg_i2l X dX9_pane_1 ?_
  refine wg_lconst (v := 0) X dX9_pane_2 (by decide) ?_
  refine wg_ldc2 (v := 5) X dX9_pane_3 k_1033 ?_
  obtain ⟨r2, h1, h⟩ := bd_some h
  refine wg_callSi (As := [.long (p1.toInt64), .long (0 : Int64), .long (5 : Int64)]) (rest := []) X (c_X9_in l E ad S C M p1.toInt64 (0 : Int64) (5 : Int64)  h1) T_yX9_in k_1021 dX9_pane_6 rfl rfl (Nat.le_of_ble_eq_true rfl) ⟨Nat.le_of_ble_eq_true rfl, Nat.le_of_ble_eq_true rfl⟩ ⟨Nat.zero_le _, Nat.zero_le _⟩ ?_
  refine wg_if_eq X 55 dX9_pane_9 (by decide) (fun c3 => ?_) (fun c3 => ?_)
  · have h := if_t c3 h
    refine wg_bipush (v := -2) X dX9_pane_55 (by decide) ?_
    exact wg_iret X ⟨(Prod.mk.inj (sm_inj h)).1, rfl, (Prod.mk.inj (sm_inj h)).2⟩ hr dX9_pane_57
  · have h := if_f c3 h
    refine wg_iload_n X 2 dX9_pane_12 rfl rfl ?_
    refine wg_i2l X dX9_pane_13 ?_
    refine wg_lconst (v := 0) X dX9_pane_14 (by decide) ?_
    refine wg_ldc2 (v := 918) X dX9_pane_15 k_1048 ?_
    obtain ⟨r5, h4, h⟩ := bd_some h
    refine wg_callSi (As := [.long (p2.toInt64), .long (0 : Int64), .long (918 : Int64)]) (rest := []) X (c_X9_in l E ad S C M p2.toInt64 (0 : Int64) (918 : Int64)  h4) T_yX9_in k_1021 dX9_pane_18 rfl rfl (Nat.le_of_ble_eq_true rfl) ⟨Nat.le_of_ble_eq_true rfl, Nat.le_of_ble_eq_true rfl⟩ ⟨Nat.zero_le _, Nat.zero_le _⟩ ?_
    refine wg_if_eq X 55 dX9_pane_21 (by decide) (fun c6 => ?_) (fun c6 => ?_)
    · have h := if_t c6 h
      refine wg_bipush (v := -2) X dX9_pane_55 (by decide) ?_
      exact wg_iret X ⟨(Prod.mk.inj (sm_inj h)).1, rfl, (Prod.mk.inj (sm_inj h)).2⟩ hr dX9_pane_57
    · have h := if_f c6 h
      refine wg_iload_n X 2 dX9_pane_24 rfl rfl ?_
      refine wg_bipush (v := 100) X dX9_pane_25 (by decide) ?_
      refine wg_irem X dX9_pane_27 (by decide) ?_
      refine wg_bipush (v := 18) X dX9_pane_28 (by decide) ?_
      refine wg_icmp_gt X 55 dX9_pane_30 (by decide) (fun c7 => ?_) (fun c7 => ?_)
      · have h := if_t c7 h
        refine wg_bipush (v := -2) X dX9_pane_55 (by decide) ?_
        exact wg_iret X ⟨(Prod.mk.inj (sm_inj h)).1, rfl, (Prod.mk.inj (sm_inj h)).2⟩ hr dX9_pane_57
      · have h := if_f c7 h
        refine wg_iload_n X 3 dX9_pane_33 rfl rfl ?_
        refine wg_i2l X dX9_pane_34 ?_
        refine wg_lconst (v := 0) X dX9_pane_35 (by decide) ?_
        refine wg_ldc2 (v := 55) X dX9_pane_36 k_1049 ?_
        obtain ⟨r9, h8, h⟩ := bd_some h
        refine wg_callSi (As := [.long (p3.toInt64), .long (0 : Int64), .long (55 : Int64)]) (rest := []) X (c_X9_in l E ad S C M p3.toInt64 (0 : Int64) (55 : Int64)  h8) T_yX9_in k_1021 dX9_pane_39 rfl rfl (Nat.le_of_ble_eq_true rfl) ⟨Nat.le_of_ble_eq_true rfl, Nat.le_of_ble_eq_true rfl⟩ ⟨Nat.zero_le _, Nat.zero_le _⟩ ?_
        refine wg_if_eq X 55 dX9_pane_42 (by decide) (fun c10 => ?_) (fun c10 => ?_)
        · have h := if_t c10 h
          refine wg_bipush (v := -2) X dX9_pane_55 (by decide) ?_
          exact wg_iret X ⟨(Prod.mk.inj (sm_inj h)).1, rfl, (Prod.mk.inj (sm_inj h)).2⟩ hr dX9_pane_57
        · have h := if_f c10 h
          refine wg_iload_n X 3 dX9_pane_45 rfl rfl ?_
          refine wg_bipush (v := 10) X dX9_pane_46 (by decide) ?_
          refine wg_irem X dX9_pane_48 (by decide) ?_
          obtain ⟨r12, h11, h⟩ := bd_some h
          refine wg_callSi (As := [.int (p3 - p3 / (10 : Int32) * (10 : Int32))]) (rest := []) X (c_X9_isRoom l E ad S C M (p3 - p3 / (10 : Int32) * (10 : Int32))  h11) T_yX9_isRoom k_1050 dX9_pane_49 rfl rfl (Nat.le_of_ble_eq_true rfl) ⟨Nat.le_of_ble_eq_true rfl, Nat.le_of_ble_eq_true rfl⟩ ⟨Nat.zero_le _, Nat.zero_le _⟩ ?_
          refine wg_if_ne X 58 dX9_pane_52 (by decide) (fun c13 => ?_) (fun c13 => ?_)
          · have h := if_f c13 h
            refine wg_aload_n X 0 dX9_pane_58 rfl rfl ?_
            refine wg_getM X cl9 (SMi hS 55 9 rfl) 13 (by decide) dX9_pane_59 k_895 rfl ?_
            refine wg_bipush (v := 8) X dX9_pane_62 (by decide) ?_
            refine wg_icmp_ne X 70 dX9_pane_64 (by decide) (fun c14 => ?_) (fun c14 => ?_)
            · have h := if_f c14 h
              refine wg_aload_n X 0 dX9_pane_70 rfl rfl ?_
              refine wg_getR (b := 60) X cl9 (SMi hS 55 9 rfl) 8 (by decide) dX9_pane_71 k_890 rfl (SMr hS 8 60 rfl) ?_
              refine wg_aload_n X 0 dX9_pane_74 rfl rfl ?_
              refine wg_getM X cl9 (SMi hS 55 9 rfl) 13 (by decide) dX9_pane_75 k_895 rfl ?_
              refine wg_iload_n X 1 dX9_pane_78 rfl rfl ?_
              obtain ⟨z15, h⟩ := ck_some h
              obtain ⟨M16, e17, h⟩ := lt_some h
              refine wg_maste X (SMi hS 60 11 rfl) (SMl hS 60 8 rfl) z15 dX9_pane_79 e17 ?_
              refine wg_aload_n X 0 dX9_pane_80 rfl rfl ?_
              refine wg_getR (b := 61) X cl9 (SMi hS 55 9 rfl) 9 (by decide) dX9_pane_81 k_891 rfl (SMr hS 9 61 rfl) ?_
              refine wg_aload_n X 0 dX9_pane_84 rfl rfl ?_
              refine wg_getM X cl9 (SMi hS 55 9 rfl) 13 (by decide) dX9_pane_85 k_895 rfl ?_
              refine wg_iload_n X 2 dX9_pane_88 rfl rfl ?_
              refine wg_bipush (v := 100) X dX9_pane_89 (by decide) ?_
              refine wg_idiv X dX9_pane_91 (by decide) ?_
              obtain ⟨z18, h⟩ := ck_some h
              obtain ⟨M19, e20, h⟩ := lt_some h
              refine wg_maste X (SMi hS 61 11 rfl) (SMl hS 61 8 rfl) z18 dX9_pane_92 e20 ?_
              refine wg_aload_n X 0 dX9_pane_93 rfl rfl ?_
              refine wg_getR (b := 62) X cl9 (SMi hS 55 9 rfl) 10 (by decide) dX9_pane_94 k_892 rfl (SMr hS 10 62 rfl) ?_
              refine wg_aload_n X 0 dX9_pane_97 rfl rfl ?_
              refine wg_getM X cl9 (SMi hS 55 9 rfl) 13 (by decide) dX9_pane_98 k_895 rfl ?_
              refine wg_iload_n X 2 dX9_pane_101 rfl rfl ?_
              refine wg_bipush (v := 100) X dX9_pane_102 (by decide) ?_
              refine wg_irem X dX9_pane_104 (by decide) ?_
              refine wg_bipush (v := 9) X dX9_pane_105 (by decide) ?_
              refine wg_isub X dX9_pane_107 ?_
              obtain ⟨z21, h⟩ := ck_some h
              obtain ⟨M22, e23, h⟩ := lt_some h
              refine wg_maste X (SMi hS 62 11 rfl) (SMl hS 62 8 rfl) z21 dX9_pane_108 e23 ?_
              refine wg_aload_n X 0 dX9_pane_109 rfl rfl ?_
              refine wg_getR (b := 63) X cl9 (SMi hS 55 9 rfl) 11 (by decide) dX9_pane_110 k_893 rfl (SMr hS 11 63 rfl) ?_
              refine wg_aload_n X 0 dX9_pane_113 rfl rfl ?_
              refine wg_getM X cl9 (SMi hS 55 9 rfl) 13 (by decide) dX9_pane_114 k_895 rfl ?_
              refine wg_iload_n X 3 dX9_pane_117 rfl rfl ?_
              refine wg_bipush (v := 10) X dX9_pane_118 (by decide) ?_
              refine wg_idiv X dX9_pane_120 (by decide) ?_
              obtain ⟨z24, h⟩ := ck_some h
              obtain ⟨M25, e26, h⟩ := lt_some h
              refine wg_maste X (SMi hS 63 11 rfl) (SMl hS 63 8 rfl) z24 dX9_pane_121 e26 ?_
              refine wg_aload_n X 0 dX9_pane_122 rfl rfl ?_
              refine wg_getR (b := 64) X cl9 (SMi hS 55 9 rfl) 12 (by decide) dX9_pane_123 k_894 rfl (SMr hS 12 64 rfl) ?_
              refine wg_aload_n X 0 dX9_pane_126 rfl rfl ?_
              refine wg_getM X cl9 (SMi hS 55 9 rfl) 13 (by decide) dX9_pane_127 k_895 rfl ?_
              refine wg_iload_n X 3 dX9_pane_130 rfl rfl ?_
              refine wg_bipush (v := 10) X dX9_pane_131 (by decide) ?_
              refine wg_irem X dX9_pane_133 (by decide) ?_
              obtain ⟨z27, h⟩ := ck_some h
              obtain ⟨M28, e29, h⟩ := lt_some h
              refine wg_maste X (SMi hS 64 11 rfl) (SMl hS 64 8 rfl) z27 dX9_pane_134 e29 ?_
              refine wg_aload_n X 0 dX9_pane_135 rfl rfl ?_
              refine wg_dup X dX9_pane_136 rfl ?_
              refine wg_getM X cl9 (SMi hS 55 9 rfl) 13 (by decide) dX9_pane_137 k_895 rfl ?_
              refine wg_iconst (v := 1) X dX9_pane_140 (by decide) ?_
              refine wg_iadd X dX9_pane_141 ?_
              obtain ⟨M30, e31, h⟩ := lt_some h
              refine wg_putMe X cl9 (SMi hS 55 9 rfl) 13 (by decide) dX9_pane_142 k_895 rfl rfl rfl rfl e31 ?_
              refine wg_aload_n X 0 dX9_pane_145 rfl rfl ?_
              refine wg_getM X cl9 (SMi hS 55 9 rfl) 13 (by decide) dX9_pane_146 k_895 rfl ?_
              refine wg_iconst (v := 1) X dX9_pane_149 (by decide) ?_
              refine wg_isub X dX9_pane_150 ?_
              exact wg_iret X ⟨(Prod.mk.inj (sm_inj h)).1, rfl, (Prod.mk.inj (sm_inj h)).2⟩ hr dX9_pane_151
            · have h := if_t c14 h
              refine wg_bipush (v := -4) X dX9_pane_67 (by decide) ?_
              exact wg_iret X ⟨(Prod.mk.inj (sm_inj h)).1, rfl, (Prod.mk.inj (sm_inj h)).2⟩ hr dX9_pane_69
          · have h := if_t c13 h
            refine wg_bipush (v := -2) X dX9_pane_55 (by decide) ?_
            exact wg_iret X ⟨(Prod.mk.inj (sm_inj h)).1, rfl, (Prod.mk.inj (sm_inj h)).2⟩ hr dX9_pane_57
-- WindowsGiveModel.on(II)I (('c', 55), 'i', 'i')
def f_X9_on_j47 (M : wg_M)  (x1 : Int32) (x2 : Int32) : Option Int32 :=
  ck (inb x1 8) <|
  ck (inb x1 8) <|
  some ((x2 + (M.1 62 x1.toNatClampNeg)) - (M.1 61 x1.toNatClampNeg))
def f_X9_on (M : wg_M) (p1 : Int32) (p2 : Int32) : Option Int32 :=
  ck (inb p1 8) <|
  lt_ (M.1 60 p1.toNatClampNeg) fun v2 =>
  if v2 = (4 : Int32) then (
    some p2)
  else (
    if v2 = (5 : Int32) then (
      ck (inb p1 8) <|
      ck (inb p1 8) <|
      some (p2 + ((M.1 62 p1.toNatClampNeg) * ((M.1 61 p1.toNatClampNeg) + (1 : Int32)))))
    else (
      if v2 = (1 : Int32) then (
        f_X9_on_j47 M  p1 p2)
      else (
        if v2 = (3 : Int32) then (
          f_X9_on_j47 M  p1 p2)
        else (
          ck (inb p1 8) <|
          some (p2 + (M.1 62 p1.toNatClampNeg))))))
abbrev G_X9_on (p : Program) (l : Launch) (e : Env) (s : State) (m : MethodId) (args : Array Value) (below : List Frame) (meth : Method) (c : Code) (E : wg_Ev) (ad : Nat → Nat) (S : wg_Sh) (r0 : Int32) (C0 : wg_C) (M0 : wg_M) (pc : Nat) (C : wg_C) (M : wg_M) (lv : List (Nat × Value)) (st : List Value) : Prop := wg_G p l e (wg_Rm 0 0) s m args below meth c (MQ below (wg_Qi E ad S r0 C0 M0) args s 0 0 (wg_A E)) 4 E ad S 0 0 pc C M lv st
set_option maxHeartbeats 4000000 in
set_option maxRecDepth 100000 in
theorem J_X9_on_j47 {p : Program} {l : Launch} {e : Env} {s : State} {m : MethodId} {args : Array Value} {below : List Frame} {meth : Method} {c : Code} {E : wg_Ev} {ad : Nat → Nat} {S : wg_Sh} (X : wg_X p s m args meth c cX9_on 4 RX9 E) (hr : meth.sig.returnType = (some .int)) (hS : wg_SM S) (r0 : Int32) (C : wg_C)  (M : wg_M)  (x1 : Int32) (x2 : Int32)   (h : f_X9_on_j47 M  x1 x2 = some r0) : G_X9_on p l e s m args below meth c E ad S r0 C M 47 C M [(0, .ref (ad 55)), (1, .int x1), (2, .int x2)] [] := by
  unfold f_X9_on_j47 at h
  refine wg_iload_n X 2 dX9_on_47 rfl rfl ?_
  refine wg_aload_n X 0 dX9_on_48 rfl rfl ?_
  refine wg_getR (b := 62) X cl9 (SMi hS 55 9 rfl) 10 (by decide) dX9_on_49 k_892 rfl (SMr hS 10 62 rfl) ?_
  refine wg_iload_n X 1 dX9_on_52 rfl rfl ?_
  obtain ⟨z7, h⟩ := ck_some h
  refine wg_mald X (SMi hS 62 11 rfl) (SMl hS 62 8 rfl) z7 dX9_on_53 ?_
  refine wg_iadd X dX9_on_54 ?_
  refine wg_aload_n X 0 dX9_on_55 rfl rfl ?_
  refine wg_getR (b := 61) X cl9 (SMi hS 55 9 rfl) 9 (by decide) dX9_on_56 k_891 rfl (SMr hS 9 61 rfl) ?_
  refine wg_iload_n X 1 dX9_on_59 rfl rfl ?_
  obtain ⟨z8, h⟩ := ck_some h
  refine wg_mald X (SMi hS 61 11 rfl) (SMl hS 61 8 rfl) z8 dX9_on_60 ?_
  refine wg_isub X dX9_on_61 ?_
  refine wg_goto X 73 dX9_on_62 (by decide) ?_
  exact wg_iret X ⟨(sm_inj h), rfl, rfl⟩ hr dX9_on_73
set_option maxHeartbeats 4000000 in
set_option maxRecDepth 100000 in
theorem c_X9_on (l : Launch) (E : wg_Ev) (ad : Nat → Nat) (S : wg_Sh) (hS : wg_SM S) (C : wg_C) (M : wg_M) (p1 : Int32) (p2 : Int32)  {r0 : Int32} (h : f_X9_on M p1 p2 = some r0) : wg_Ci l yX9_on cX9_on 4 (some .int) 0 0 E ad S C M [.ref (ad 55), .int p1, .int p2] r0 C M := by
  refine wg_start (own := RX9) (by decide +kernel) rfl (Nat.le_of_ble_eq_true rfl) ?_
  intro p e s m below meth c X hr hnm
  refine wg_lv (lv' := [(0, .ref (ad 55)), (1, .int p1), (2, .int p2)]) rfl ?_
  unfold f_X9_on at h
  refine wg_aload_n X 0 dX9_on_0 rfl rfl ?_
  refine wg_getR (b := 60) X cl9 (SMi hS 55 9 rfl) 8 (by decide) dX9_on_1 k_890 rfl (SMr hS 8 60 rfl) ?_
  refine wg_iload_n X 1 dX9_on_4 rfl rfl ?_
  obtain ⟨z1, h⟩ := ck_some h
  refine wg_mald X (SMi hS 60 11 rfl) (SMl hS 60 8 rfl) z1 dX9_on_5 ?_
  obtain ⟨v2, e3, h⟩ := lt_some h
  refine wg_istore_n (lv' := [(3, .int v2), (0, .ref (ad 55)), (1, .int p1), (2, .int p2)]) X dX9_on_6 rfl e3 (by decide) rfl ?_
  refine wg_iload_n X 0 dX9_on_7 rfl rfl ?_
  refine wg_iconst (v := 4) X dX9_on_8 (by decide) ?_
  refine wg_icmp_ne X 14 dX9_on_9 (by decide) (fun c4 => ?_) (fun c4 => ?_)
  · have h := if_f c4 h
    refine wg_iload_n X 0 dX9_on_14 rfl rfl ?_
    refine wg_iconst (v := 5) X dX9_on_15 (by decide) ?_
    refine wg_icmp_ne X 37 dX9_on_16 (by decide) (fun c5 => ?_) (fun c5 => ?_)
    · have h := if_f c5 h
      refine wg_iload_n X 0 dX9_on_37 rfl rfl ?_
      refine wg_iconst (v := 1) X dX9_on_38 (by decide) ?_
      refine wg_icmp_eq X 47 dX9_on_39 (by decide) (fun c6 => ?_) (fun c6 => ?_)
      · have h := if_t c6 h
        refine wg_pick [1, 2, 3] (lv' := [(0, .ref (ad 55)), (1, .int p1), (2, .int p2)]) rfl ?_
        exact J_X9_on_j47 X hr hS r0 C  M  p1 p2   h
      · have h := if_f c6 h
        refine wg_iload_n X 0 dX9_on_42 rfl rfl ?_
        refine wg_iconst (v := 3) X dX9_on_43 (by decide) ?_
        refine wg_icmp_ne X 65 dX9_on_44 (by decide) (fun c9 => ?_) (fun c9 => ?_)
        · have h := if_f c9 h
          refine wg_iload_n X 3 dX9_on_65 rfl rfl ?_
          refine wg_aload_n X 1 dX9_on_66 rfl rfl ?_
          refine wg_getR (b := 62) X cl9 (SMi hS 55 9 rfl) 10 (by decide) dX9_on_67 k_892 rfl (SMr hS 10 62 rfl) ?_
          refine wg_iload_n X 2 dX9_on_70 rfl rfl ?_
          obtain ⟨z10, h⟩ := ck_some h
          refine wg_mald X (SMi hS 62 11 rfl) (SMl hS 62 8 rfl) z10 dX9_on_71 ?_
          refine wg_iadd X dX9_on_72 ?_
          exact wg_iret X ⟨(sm_inj h), rfl, rfl⟩ hr dX9_on_73
        · have h := if_t c9 h
          refine wg_pick [1, 2, 3] (lv' := [(0, .ref (ad 55)), (1, .int p1), (2, .int p2)]) rfl ?_
          exact J_X9_on_j47 X hr hS r0 C  M  p1 p2   h
    · have h := if_t c5 h
      refine wg_iload_n X 3 dX9_on_19 rfl rfl ?_
      refine wg_aload_n X 1 dX9_on_20 rfl rfl ?_
      refine wg_getR (b := 62) X cl9 (SMi hS 55 9 rfl) 10 (by decide) dX9_on_21 k_892 rfl (SMr hS 10 62 rfl) ?_
      refine wg_iload_n X 2 dX9_on_24 rfl rfl ?_
      obtain ⟨z11, h⟩ := ck_some h
      refine wg_mald X (SMi hS 62 11 rfl) (SMl hS 62 8 rfl) z11 dX9_on_25 ?_
      refine wg_aload_n X 1 dX9_on_26 rfl rfl ?_
      refine wg_getR (b := 61) X cl9 (SMi hS 55 9 rfl) 9 (by decide) dX9_on_27 k_891 rfl (SMr hS 9 61 rfl) ?_
      refine wg_iload_n X 2 dX9_on_30 rfl rfl ?_
      obtain ⟨z12, h⟩ := ck_some h
      refine wg_mald X (SMi hS 61 11 rfl) (SMl hS 61 8 rfl) z12 dX9_on_31 ?_
      refine wg_iconst (v := 1) X dX9_on_32 (by decide) ?_
      refine wg_iadd X dX9_on_33 ?_
      refine wg_imul X dX9_on_34 ?_
      refine wg_iadd X dX9_on_35 ?_
      exact wg_iret X ⟨(sm_inj h), rfl, rfl⟩ hr dX9_on_36
  · have h := if_t c4 h
    refine wg_iload_n X 3 dX9_on_12 rfl rfl ?_
    exact wg_iret X ⟨(sm_inj h), rfl, rfl⟩ hr dX9_on_13
-- WindowsGiveModel.passes(III)Z (('c', 55), 'i', 'i', 'i')
def f_X9_passes_j64 (M : wg_M)  (x3 : Int32) : Option Int32 :=
  if (2 : Int32) ≤ x3 then (
    some (0 : Int32))
  else (
    some (1 : Int32))
def f_X9_passes (M : wg_M) (p1 : Int32) (p2 : Int32) (p3 : Int32) : Option Int32 :=
  ck (inb p1 8) <|
  lt_ (M.1 60 p1.toNatClampNeg) fun v2 =>
  bd (f_X9_on M p1 p2) fun r5 =>
  bd (f_X9_isDay r5) fun r7 =>
  if r7 = 0 then (
    some (0 : Int32))
  else (
    if v2 = (5 : Int32) then (
      ck (inb p1 8) <|
      ck (¬ ((M.1 61 p1.toNatClampNeg) + (1 : Int32)) = 0) <|
      if (p2 - p2 / ((M.1 61 p1.toNatClampNeg) + (1 : Int32)) * ((M.1 61 p1.toNatClampNeg) + (1 : Int32))) = 0 then (
        some (1 : Int32))
      else (
        some (0 : Int32)))
    else (
      if v2 = (3 : Int32) then (
        some (1 : Int32))
      else (
        if v2 = 0 then (
          f_X9_passes_j64 M  p3)
        else (
          if v2 = (1 : Int32) then (
            f_X9_passes_j64 M  p3)
          else (
            if v2 = (2 : Int32) then (
              if p3 = (1 : Int32) then (
                some (1 : Int32))
              else (
                some (0 : Int32)))
            else (
              if p3 = 0 then (
                some (1 : Int32))
              else (
                some (0 : Int32))))))))
abbrev G_X9_passes (p : Program) (l : Launch) (e : Env) (s : State) (m : MethodId) (args : Array Value) (below : List Frame) (meth : Method) (c : Code) (E : wg_Ev) (ad : Nat → Nat) (S : wg_Sh) (r0 : Int32) (C0 : wg_C) (M0 : wg_M) (pc : Nat) (C : wg_C) (M : wg_M) (lv : List (Nat × Value)) (st : List Value) : Prop := wg_G p l e (wg_Rm 2 45) s m args below meth c (MQ below (wg_Qi E ad S r0 C0 M0) args s 0 0 (wg_A E)) 5 E ad S 0 0 pc C M lv st
set_option maxHeartbeats 4000000 in
set_option maxRecDepth 100000 in
theorem J_X9_passes_j64 {p : Program} {l : Launch} {e : Env} {s : State} {m : MethodId} {args : Array Value} {below : List Frame} {meth : Method} {c : Code} {E : wg_Ev} {ad : Nat → Nat} {S : wg_Sh} (X : wg_X p s m args meth c cX9_passes 5 RX9 E) (hr : meth.sig.returnType = (some .boolean)) (hS : wg_SM S) (r0 : Int32) (C : wg_C)  (M : wg_M)  (x3 : Int32)   (h : f_X9_passes_j64 M  x3 = some r0) : G_X9_passes p l e s m args below meth c E ad S r0 C M 64 C M [(3, .int x3)] [] := by
  unfold f_X9_passes_j64 at h
  refine wg_iload_n X 0 dX9_passes_64 rfl rfl ?_
  refine wg_iconst (v := 2) X dX9_passes_65 (by decide) ?_
  refine wg_icmp_ge X 94 dX9_passes_66 (by decide) (fun c12 => ?_) (fun c12 => ?_)
  · have h := if_t c12 h
    refine wg_iconst (v := 0) X dX9_passes_94 (by decide) ?_
    exact wg_zret X ⟨(sm_inj h), rfl, rfl⟩ hr (by decide) dX9_passes_95
  · have h := if_f c12 h
    refine wg_goto X 90 dX9_passes_69 (by decide) ?_
    refine wg_iconst (v := 1) X dX9_passes_90 (by decide) ?_
    refine wg_goto X 95 dX9_passes_91 (by decide) ?_
    exact wg_zret X ⟨(sm_inj h), rfl, rfl⟩ hr (by decide) dX9_passes_95
set_option maxHeartbeats 4000000 in
set_option maxRecDepth 100000 in
theorem c_X9_passes (l : Launch) (E : wg_Ev) (ad : Nat → Nat) (S : wg_Sh) (hS : wg_SM S) (C : wg_C) (M : wg_M) (p1 : Int32) (p2 : Int32) (p3 : Int32)  {r0 : Int32} (h : f_X9_passes M p1 p2 p3 = some r0) : wg_Ci l yX9_passes cX9_passes 5 (some .boolean) 2 45 E ad S C M [.ref (ad 55), .int p1, .int p2, .int p3] r0 C M := by
  refine wg_start (own := RX9) (by decide +kernel) rfl (Nat.le_of_ble_eq_true rfl) ?_
  intro p e s m below meth c X hr hnm
  refine wg_lv (lv' := [(0, .ref (ad 55)), (1, .int p1), (2, .int p2), (3, .int p3)]) rfl ?_
  unfold f_X9_passes at h
  refine wg_aload_n X 0 dX9_passes_0 rfl rfl ?_
  refine wg_getR (b := 60) X cl9 (SMi hS 55 9 rfl) 8 (by decide) dX9_passes_1 k_890 rfl (SMr hS 8 60 rfl) ?_
  refine wg_iload_n X 1 dX9_passes_4 rfl rfl ?_
  obtain ⟨z1, h⟩ := ck_some h
  refine wg_mald X (SMi hS 60 11 rfl) (SMl hS 60 8 rfl) z1 dX9_passes_5 ?_
  obtain ⟨v2, e3, h⟩ := lt_some h
  refine wg_istore (lv' := [(4, .int v2), (0, .ref (ad 55)), (1, .int p1), (2, .int p2), (3, .int p3)]) X dX9_passes_6 e3 (by decide) rfl ?_
  refine wg_aload_n X 1 dX9_passes_8 rfl rfl ?_
  refine wg_iload_n X 2 dX9_passes_9 rfl rfl ?_
  refine wg_iload_n X 3 dX9_passes_10 rfl rfl ?_
  obtain ⟨r5, h4, h⟩ := bd_some h
  refine wg_callVi (As := [.int p1, .int p2]) (rest := []) X (c_X9_on l E ad S hS C M p1 p2  h4) T_yX9_on k_1062 cl9 (SMi hS 55 9 rfl) dX9_passes_11 rfl rfl (Nat.le_of_ble_eq_true rfl) ⟨Nat.le_of_ble_eq_true rfl, Nat.le_of_ble_eq_true rfl⟩ ⟨Nat.zero_le _, Nat.zero_le _⟩ ?_
  obtain ⟨r7, h6, h⟩ := bd_some h
  refine wg_callSi (As := [.int r5]) (rest := []) X (c_X9_isDay l E ad S C M r5  h6) T_yX9_isDay k_1024 dX9_passes_14 rfl rfl (Nat.le_of_ble_eq_true rfl) ⟨Nat.le_of_ble_eq_true rfl, Nat.le_of_ble_eq_true rfl⟩ ⟨Nat.zero_le _, Nat.zero_le _⟩ ?_
  refine wg_if_ne X 22 dX9_passes_17 (by decide) (fun c8 => ?_) (fun c8 => ?_)
  · have h := if_f c8 h
    refine wg_iload X 0 dX9_passes_22 rfl ?_
    refine wg_iconst (v := 5) X dX9_passes_24 (by decide) ?_
    refine wg_icmp_ne X 47 dX9_passes_25 (by decide) (fun c9 => ?_) (fun c9 => ?_)
    · have h := if_f c9 h
      refine wg_iload X 0 dX9_passes_47 rfl ?_
      refine wg_iconst (v := 3) X dX9_passes_49 (by decide) ?_
      refine wg_icmp_eq X 90 dX9_passes_50 (by decide) (fun c10 => ?_) (fun c10 => ?_)
      · have h := if_t c10 h
        refine wg_iconst (v := 1) X dX9_passes_90 (by decide) ?_
        refine wg_goto X 95 dX9_passes_91 (by decide) ?_
        exact wg_zret X ⟨(sm_inj h), rfl, rfl⟩ hr (by decide) dX9_passes_95
      · have h := if_f c10 h
        refine wg_iload X 0 dX9_passes_53 rfl ?_
        refine wg_if_eq X 64 dX9_passes_55 (by decide) (fun c11 => ?_) (fun c11 => ?_)
        · have h := if_t c11 h
          refine wg_pick [4] (lv' := [(3, .int p3)]) rfl ?_
          exact J_X9_passes_j64 X hr hS r0 C  M  p3   h
        · have h := if_f c11 h
          refine wg_iload X 0 dX9_passes_58 rfl ?_
          refine wg_iconst (v := 1) X dX9_passes_60 (by decide) ?_
          refine wg_icmp_ne X 72 dX9_passes_61 (by decide) (fun c13 => ?_) (fun c13 => ?_)
          · have h := if_f c13 h
            refine wg_iload X 0 dX9_passes_72 rfl ?_
            refine wg_iconst (v := 2) X dX9_passes_74 (by decide) ?_
            refine wg_icmp_ne X 86 dX9_passes_75 (by decide) (fun c14 => ?_) (fun c14 => ?_)
            · have h := if_f c14 h
              refine wg_iload_n X 4 dX9_passes_86 rfl rfl ?_
              refine wg_if_ne X 94 dX9_passes_87 (by decide) (fun c15 => ?_) (fun c15 => ?_)
              · have h := if_f c15 h
                refine wg_iconst (v := 0) X dX9_passes_94 (by decide) ?_
                exact wg_zret X ⟨(sm_inj h), rfl, rfl⟩ hr (by decide) dX9_passes_95
              · have h := if_t c15 h
                refine wg_iconst (v := 1) X dX9_passes_90 (by decide) ?_
                refine wg_goto X 95 dX9_passes_91 (by decide) ?_
                exact wg_zret X ⟨(sm_inj h), rfl, rfl⟩ hr (by decide) dX9_passes_95
            · have h := if_t c14 h
              refine wg_iload_n X 4 dX9_passes_78 rfl rfl ?_
              refine wg_iconst (v := 1) X dX9_passes_79 (by decide) ?_
              refine wg_icmp_ne X 94 dX9_passes_80 (by decide) (fun c16 => ?_) (fun c16 => ?_)
              · have h := if_f c16 h
                refine wg_iconst (v := 0) X dX9_passes_94 (by decide) ?_
                exact wg_zret X ⟨(sm_inj h), rfl, rfl⟩ hr (by decide) dX9_passes_95
              · have h := if_t c16 h
                refine wg_goto X 90 dX9_passes_83 (by decide) ?_
                refine wg_iconst (v := 1) X dX9_passes_90 (by decide) ?_
                refine wg_goto X 95 dX9_passes_91 (by decide) ?_
                exact wg_zret X ⟨(sm_inj h), rfl, rfl⟩ hr (by decide) dX9_passes_95
          · have h := if_t c13 h
            refine wg_pick [4] (lv' := [(3, .int p3)]) rfl ?_
            exact J_X9_passes_j64 X hr hS r0 C  M  p3   h
    · have h := if_t c9 h
      refine wg_iload_n X 3 dX9_passes_28 rfl rfl ?_
      refine wg_aload_n X 1 dX9_passes_29 rfl rfl ?_
      refine wg_getR (b := 61) X cl9 (SMi hS 55 9 rfl) 9 (by decide) dX9_passes_30 k_891 rfl (SMr hS 9 61 rfl) ?_
      refine wg_iload_n X 2 dX9_passes_33 rfl rfl ?_
      obtain ⟨z17, h⟩ := ck_some h
      refine wg_mald X (SMi hS 61 11 rfl) (SMl hS 61 8 rfl) z17 dX9_passes_34 ?_
      refine wg_iconst (v := 1) X dX9_passes_35 (by decide) ?_
      refine wg_iadd X dX9_passes_36 ?_
      obtain ⟨z18, h⟩ := ck_some h
      refine wg_irem X dX9_passes_37 z18 ?_
      refine wg_if_ne X 45 dX9_passes_38 (by decide) (fun c19 => ?_) (fun c19 => ?_)
      · have h := if_f c19 h
        refine wg_iconst (v := 0) X dX9_passes_45 (by decide) ?_
        exact wg_zret X ⟨(sm_inj h), rfl, rfl⟩ hr (by decide) dX9_passes_46
      · have h := if_t c19 h
        refine wg_iconst (v := 1) X dX9_passes_41 (by decide) ?_
        refine wg_goto X 46 dX9_passes_42 (by decide) ?_
        exact wg_zret X ⟨(sm_inj h), rfl, rfl⟩ hr (by decide) dX9_passes_46
  · have h := if_t c8 h
    refine wg_iconst (v := 0) X dX9_passes_20 (by decide) ?_
    exact wg_zret X ⟨(sm_inj h), rfl, rfl⟩ hr (by decide) dX9_passes_21
-- WindowsGiveModel.gives(III)I (('c', 55), 'i', 'i', 'i')
def f_X9_gives_j31 (M : wg_M)  (x1 : Int32) (x2 : Int32) (x3 : Int32) : Option Int32 :=
  if x3 = (-1 : Int32) then (
    bd (f_X9_on M x1 x2) fun r13 =>
    some r13)
  else (
    bd (f_X9_passes M x1 x2 x3) fun r10 =>
    if r10 = 0 then (
      some (0 : Int32))
    else (
      some (1 : Int32)))
def f_X9_gives (M : wg_M) (p1 : Int32) (p2 : Int32) (p3 : Int32) : Option Int32 :=
  bd (f_X9_isPane M p1) fun r2 =>
  if r2 = 0 then (
    some (-1000 : Int32))
  else (
    bd (f_X9_isDay p2) fun r5 =>
    if r5 = 0 then (
      some (-1000 : Int32))
    else (
      if p3 = (-1 : Int32) then (
        f_X9_gives_j31 M  p1 p2 p3)
      else (
        bd (f_X9_isSort p3) fun r15 =>
        if r15 = 0 then (
          some (-1000 : Int32))
        else (
          f_X9_gives_j31 M  p1 p2 p3))))
abbrev G_X9_gives (p : Program) (l : Launch) (e : Env) (s : State) (m : MethodId) (args : Array Value) (below : List Frame) (meth : Method) (c : Code) (E : wg_Ev) (ad : Nat → Nat) (S : wg_Sh) (r0 : Int32) (C0 : wg_C) (M0 : wg_M) (pc : Nat) (C : wg_C) (M : wg_M) (lv : List (Nat × Value)) (st : List Value) : Prop := wg_G p l e (wg_Rm 3 69) s m args below meth c (MQ below (wg_Qi E ad S r0 C0 M0) args s 0 0 (wg_A E)) 4 E ad S 0 0 pc C M lv st
set_option maxHeartbeats 4000000 in
set_option maxRecDepth 100000 in
theorem J_X9_gives_j31 {p : Program} {l : Launch} {e : Env} {s : State} {m : MethodId} {args : Array Value} {below : List Frame} {meth : Method} {c : Code} {E : wg_Ev} {ad : Nat → Nat} {S : wg_Sh} (X : wg_X p s m args meth c cX9_gives 4 RX9 E) (hr : meth.sig.returnType = (some .int)) (hS : wg_SM S) (r0 : Int32) (C : wg_C)  (M : wg_M)  (x1 : Int32) (x2 : Int32) (x3 : Int32)   (h : f_X9_gives_j31 M  x1 x2 x3 = some r0) : G_X9_gives p l e s m args below meth c E ad S r0 C M 31 C M [(0, .ref (ad 55)), (1, .int x1), (2, .int x2), (3, .int x3)] [] := by
  unfold f_X9_gives_j31 at h
  refine wg_iload_n X 3 dX9_gives_31 rfl rfl ?_
  refine wg_iconst (v := -1) X dX9_gives_32 (by decide) ?_
  refine wg_icmp_ne X 45 dX9_gives_33 (by decide) (fun c8 => ?_) (fun c8 => ?_)
  · have h := if_f c8 h
    refine wg_aload_n X 0 dX9_gives_45 rfl rfl ?_
    refine wg_iload_n X 1 dX9_gives_46 rfl rfl ?_
    refine wg_iload_n X 2 dX9_gives_47 rfl rfl ?_
    refine wg_iload_n X 3 dX9_gives_48 rfl rfl ?_
    obtain ⟨r10, h9, h⟩ := bd_some h
    refine wg_callVi (As := [.int x1, .int x2, .int x3]) (rest := []) X (c_X9_passes l E ad S hS C M x1 x2 x3  h9) T_yX9_passes k_1066 cl9 (SMi hS 55 9 rfl) dX9_gives_49 rfl rfl (Nat.le_of_ble_eq_true rfl) ⟨Nat.le_of_ble_eq_true rfl, Nat.le_of_ble_eq_true rfl⟩ ⟨Nat.zero_le _, Nat.zero_le _⟩ ?_
    refine wg_if_eq X 59 dX9_gives_52 (by decide) (fun c11 => ?_) (fun c11 => ?_)
    · have h := if_t c11 h
      refine wg_iconst (v := 0) X dX9_gives_59 (by decide) ?_
      exact wg_iret X ⟨(sm_inj h), rfl, rfl⟩ hr dX9_gives_60
    · have h := if_f c11 h
      refine wg_iconst (v := 1) X dX9_gives_55 (by decide) ?_
      refine wg_goto X 60 dX9_gives_56 (by decide) ?_
      exact wg_iret X ⟨(sm_inj h), rfl, rfl⟩ hr dX9_gives_60
  · have h := if_t c8 h
    refine wg_aload_n X 0 dX9_gives_36 rfl rfl ?_
    refine wg_iload_n X 1 dX9_gives_37 rfl rfl ?_
    refine wg_iload_n X 2 dX9_gives_38 rfl rfl ?_
    obtain ⟨r13, h12, h⟩ := bd_some h
    refine wg_callVi (As := [.int x1, .int x2]) (rest := []) X (c_X9_on l E ad S hS C M x1 x2  h12) T_yX9_on k_1062 cl9 (SMi hS 55 9 rfl) dX9_gives_39 rfl rfl (Nat.le_of_ble_eq_true rfl) ⟨Nat.le_of_ble_eq_true rfl, Nat.le_of_ble_eq_true rfl⟩ ⟨Nat.zero_le _, Nat.zero_le _⟩ ?_
    refine wg_goto X 60 dX9_gives_42 (by decide) ?_
    exact wg_iret X ⟨(sm_inj h), rfl, rfl⟩ hr dX9_gives_60
set_option maxHeartbeats 4000000 in
set_option maxRecDepth 100000 in
theorem c_X9_gives (l : Launch) (E : wg_Ev) (ad : Nat → Nat) (S : wg_Sh) (hS : wg_SM S) (C : wg_C) (M : wg_M) (p1 : Int32) (p2 : Int32) (p3 : Int32)  {r0 : Int32} (h : f_X9_gives M p1 p2 p3 = some r0) : wg_Ci l yX9_gives cX9_gives 4 (some .int) 3 69 E ad S C M [.ref (ad 55), .int p1, .int p2, .int p3] r0 C M := by
  refine wg_start (own := RX9) (by decide +kernel) rfl (Nat.le_of_ble_eq_true rfl) ?_
  intro p e s m below meth c X hr hnm
  refine wg_lv (lv' := [(0, .ref (ad 55)), (1, .int p1), (2, .int p2), (3, .int p3)]) rfl ?_
  unfold f_X9_gives at h
  refine wg_aload_n X 0 dX9_gives_0 rfl rfl ?_
  refine wg_iload_n X 1 dX9_gives_1 rfl rfl ?_
  obtain ⟨r2, h1, h⟩ := bd_some h
  refine wg_callVi (As := [.int p1]) (rest := []) X (c_X9_isPane l E ad S hS C M p1  h1) T_yX9_isPane k_1028 cl9 (SMi hS 55 9 rfl) dX9_gives_2 rfl rfl (Nat.le_of_ble_eq_true rfl) ⟨Nat.le_of_ble_eq_true rfl, Nat.le_of_ble_eq_true rfl⟩ ⟨Nat.zero_le _, Nat.zero_le _⟩ ?_
  refine wg_if_eq X 27 dX9_gives_5 (by decide) (fun c3 => ?_) (fun c3 => ?_)
  · have h := if_t c3 h
    refine wg_sipush (v := -1000) X dX9_gives_27 (by decide) ?_
    exact wg_iret X ⟨(sm_inj h), rfl, rfl⟩ hr dX9_gives_30
  · have h := if_f c3 h
    refine wg_iload_n X 2 dX9_gives_8 rfl rfl ?_
    obtain ⟨r5, h4, h⟩ := bd_some h
    refine wg_callSi (As := [.int p2]) (rest := []) X (c_X9_isDay l E ad S C M p2  h4) T_yX9_isDay k_1024 dX9_gives_9 rfl rfl (Nat.le_of_ble_eq_true rfl) ⟨Nat.le_of_ble_eq_true rfl, Nat.le_of_ble_eq_true rfl⟩ ⟨Nat.zero_le _, Nat.zero_le _⟩ ?_
    refine wg_if_eq X 27 dX9_gives_12 (by decide) (fun c6 => ?_) (fun c6 => ?_)
    · have h := if_t c6 h
      refine wg_sipush (v := -1000) X dX9_gives_27 (by decide) ?_
      exact wg_iret X ⟨(sm_inj h), rfl, rfl⟩ hr dX9_gives_30
    · have h := if_f c6 h
      refine wg_iload_n X 3 dX9_gives_15 rfl rfl ?_
      refine wg_iconst (v := -1) X dX9_gives_16 (by decide) ?_
      refine wg_icmp_eq X 31 dX9_gives_17 (by decide) (fun c7 => ?_) (fun c7 => ?_)
      · have h := if_t c7 h
        exact J_X9_gives_j31 X hr hS r0 C  M  p1 p2 p3   h
      · have h := if_f c7 h
        refine wg_iload_n X 3 dX9_gives_20 rfl rfl ?_
        obtain ⟨r15, h14, h⟩ := bd_some h
        refine wg_callSi (As := [.int p3]) (rest := []) X (c_X9_isSort l E ad S C M p3  h14) T_yX9_isSort k_1058 dX9_gives_21 rfl rfl (Nat.le_of_ble_eq_true rfl) ⟨Nat.le_of_ble_eq_true rfl, Nat.le_of_ble_eq_true rfl⟩ ⟨Nat.zero_le _, Nat.zero_le _⟩ ?_
        refine wg_if_ne X 31 dX9_gives_24 (by decide) (fun c16 => ?_) (fun c16 => ?_)
        · have h := if_f c16 h
          exact J_X9_gives_j31 X hr hS r0 C  M  p1 p2 p3   h
        · have h := if_t c16 h
          refine wg_sipush (v := -1000) X dX9_gives_27 (by decide) ?_
          exact wg_iret X ⟨(sm_inj h), rfl, rfl⟩ hr dX9_gives_30
-- WindowsGiveModel.feed(I)I (('c', 55), 'i')
def f_X9_feed (M : wg_M) (p1 : Int32) : Option (Int32 × wg_M) :=
  bd (f_X9_in p1.toInt64 (0 : Int64) (255 : Int64)) fun r2 =>
  if r2 = 0 then (
    some ((-2 : Int32), M))
  else (
    if (M.1 55 6) = (160 : Int32) then (
      some ((-4 : Int32), M))
    else (
      ck (inb (M.1 55 6) 160) <|
      lt_ (wg_sM M 58 (M.1 55 6).toNatClampNeg p1) fun M6 =>
      lt_ (wg_sM M6 55 6 ((M6.1 55 6) + (1 : Int32))) fun M8 =>
      some ((M8.1 55 6), M8)))
set_option maxHeartbeats 4000000 in
set_option maxRecDepth 100000 in
theorem c_X9_feed (l : Launch) (E : wg_Ev) (ad : Nat → Nat) (S : wg_Sh) (hS : wg_SM S) (C : wg_C) (M : wg_M) (p1 : Int32)  {r0 : Int32} {D0 : wg_M} (h : f_X9_feed M p1 = some (r0, D0)) : wg_Ci l yX9_feed cX9_feed 2 (some .int) 1 25 E ad S C M [.ref (ad 55), .int p1] r0 C D0 := by
  refine wg_start (own := RX9) (by decide +kernel) rfl (Nat.le_of_ble_eq_true rfl) ?_
  intro p e s m below meth c X hr hnm
  refine wg_lv (lv' := [(0, .ref (ad 55)), (1, .int p1)]) rfl ?_
  unfold f_X9_feed at h
  refine wg_iload_n X 1 dX9_feed_0 rfl rfl ?_
  refine wg_i2l X dX9_feed_1 ?_
  refine wg_lconst (v := 0) X dX9_feed_2 (by decide) ?_
  refine wg_ldc2 (v := 255) X dX9_feed_3 k_1074 ?_
  obtain ⟨r2, h1, h⟩ := bd_some h
  refine wg_callSi (As := [.long (p1.toInt64), .long (0 : Int64), .long (255 : Int64)]) (rest := []) X (c_X9_in l E ad S C M p1.toInt64 (0 : Int64) (255 : Int64)  h1) T_yX9_in k_1021 dX9_feed_6 rfl rfl (Nat.le_of_ble_eq_true rfl) ⟨Nat.le_of_ble_eq_true rfl, Nat.le_of_ble_eq_true rfl⟩ ⟨Nat.zero_le _, Nat.zero_le _⟩ ?_
  refine wg_if_ne X 15 dX9_feed_9 (by decide) (fun c3 => ?_) (fun c3 => ?_)
  · have h := if_f c3 h
    refine wg_aload_n X 0 dX9_feed_15 rfl rfl ?_
    refine wg_getM X cl9 (SMi hS 55 9 rfl) 6 (by decide) dX9_feed_16 k_888 rfl ?_
    refine wg_sipush (v := 160) X dX9_feed_19 (by decide) ?_
    refine wg_icmp_ne X 28 dX9_feed_22 (by decide) (fun c4 => ?_) (fun c4 => ?_)
    · have h := if_f c4 h
      refine wg_aload_n X 0 dX9_feed_28 rfl rfl ?_
      refine wg_getR (b := 58) X cl9 (SMi hS 55 9 rfl) 5 (by decide) dX9_feed_29 k_887 rfl (SMr hS 5 58 rfl) ?_
      refine wg_aload_n X 0 dX9_feed_32 rfl rfl ?_
      refine wg_getM X cl9 (SMi hS 55 9 rfl) 6 (by decide) dX9_feed_33 k_888 rfl ?_
      refine wg_iload_n X 1 dX9_feed_36 rfl rfl ?_
      obtain ⟨z5, h⟩ := ck_some h
      obtain ⟨M6, e7, h⟩ := lt_some h
      refine wg_maste X (SMi hS 58 11 rfl) (SMl hS 58 160 rfl) z5 dX9_feed_37 e7 ?_
      refine wg_aload_n X 0 dX9_feed_38 rfl rfl ?_
      refine wg_dup X dX9_feed_39 rfl ?_
      refine wg_getM X cl9 (SMi hS 55 9 rfl) 6 (by decide) dX9_feed_40 k_888 rfl ?_
      refine wg_iconst (v := 1) X dX9_feed_43 (by decide) ?_
      refine wg_iadd X dX9_feed_44 ?_
      obtain ⟨M8, e9, h⟩ := lt_some h
      refine wg_putMe X cl9 (SMi hS 55 9 rfl) 6 (by decide) dX9_feed_45 k_888 rfl rfl rfl rfl e9 ?_
      refine wg_aload_n X 0 dX9_feed_48 rfl rfl ?_
      refine wg_getM X cl9 (SMi hS 55 9 rfl) 6 (by decide) dX9_feed_49 k_888 rfl ?_
      exact wg_iret X ⟨(Prod.mk.inj (sm_inj h)).1, rfl, (Prod.mk.inj (sm_inj h)).2⟩ hr dX9_feed_52
    · have h := if_t c4 h
      refine wg_bipush (v := -4) X dX9_feed_25 (by decide) ?_
      exact wg_iret X ⟨(Prod.mk.inj (sm_inj h)).1, rfl, (Prod.mk.inj (sm_inj h)).2⟩ hr dX9_feed_27
  · have h := if_t c3 h
    refine wg_bipush (v := -2) X dX9_feed_12 (by decide) ?_
    exact wg_iret X ⟨(Prod.mk.inj (sm_inj h)).1, rfl, (Prod.mk.inj (sm_inj h)).2⟩ hr dX9_feed_14
-- WindowsGiveModel.byteAt(I)I (('c', 55), 'i')
def f_X9_byteAt (M : wg_M) (p1 : Int32) : Option Int32 :=
  if (M.1 55 22) ≤ p1 then (
    some (-1 : Int32))
  else (
    ck (inb ((M.1 55 21) + p1) 960) <|
    some (M.1 56 ((M.1 55 21) + p1).toNatClampNeg))
set_option maxHeartbeats 4000000 in
set_option maxRecDepth 100000 in
theorem c_X9_byteAt (l : Launch) (E : wg_Ev) (ad : Nat → Nat) (S : wg_Sh) (hS : wg_SM S) (C : wg_C) (M : wg_M) (p1 : Int32)  {r0 : Int32} (h : f_X9_byteAt M p1 = some r0) : wg_Ci l yX9_byteAt cX9_byteAt 2 (some .int) 0 0 E ad S C M [.ref (ad 55), .int p1] r0 C M := by
  refine wg_start (own := RX9) (by decide +kernel) rfl (Nat.le_of_ble_eq_true rfl) ?_
  intro p e s m below meth c X hr hnm
  refine wg_lv (lv' := [(0, .ref (ad 55)), (1, .int p1)]) rfl ?_
  unfold f_X9_byteAt at h
  refine wg_iload_n X 1 dX9_byteAt_0 rfl rfl ?_
  refine wg_aload_n X 0 dX9_byteAt_1 rfl rfl ?_
  refine wg_getM X cl9 (SMi hS 55 9 rfl) 22 (by decide) dX9_byteAt_2 k_904 rfl ?_
  refine wg_icmp_ge X 22 dX9_byteAt_5 (by decide) (fun c1 => ?_) (fun c1 => ?_)
  · have h := if_t c1 h
    refine wg_iconst (v := -1) X dX9_byteAt_22 (by decide) ?_
    exact wg_iret X ⟨(sm_inj h), rfl, rfl⟩ hr dX9_byteAt_23
  · have h := if_f c1 h
    refine wg_aload_n X 0 dX9_byteAt_8 rfl rfl ?_
    refine wg_getR (b := 56) X cl9 (SMi hS 55 9 rfl) 1 (by decide) dX9_byteAt_9 k_883 rfl (SMr hS 1 56 rfl) ?_
    refine wg_aload_n X 0 dX9_byteAt_12 rfl rfl ?_
    refine wg_getM X cl9 (SMi hS 55 9 rfl) 21 (by decide) dX9_byteAt_13 k_903 rfl ?_
    refine wg_iload_n X 1 dX9_byteAt_16 rfl rfl ?_
    refine wg_iadd X dX9_byteAt_17 ?_
    obtain ⟨z2, h⟩ := ck_some h
    refine wg_mald X (SMi hS 56 11 rfl) (SMl hS 56 960 rfl) z2 dX9_byteAt_18 ?_
    refine wg_goto X 23 dX9_byteAt_19 (by decide) ?_
    exact wg_iret X ⟨(sm_inj h), rfl, rfl⟩ hr dX9_byteAt_23
-- WindowsGiveModel.next()V (('c', 55),)
def f_X9_next_j26l0 (N : Nat) (M : wg_M)   : Option ((wg_M) ⊕ (wg_M)) :=
  lt_ (wg_sM M 55 23 ((M.1 55 23) + (1 : Int32))) fun M4 =>
  some (.inl M4)
def f_X9_next_l0 (N : Nat)   (M : wg_M)  : Option ((wg_M) ⊕ (wg_M)) :=
  bd (f_X9_byteAt M (M.1 55 23)) fun r2 =>
  if r2 = (32 : Int32) then (
    f_X9_next_j26l0 N M  )
  else (
    bd (f_X9_byteAt M (M.1 55 23)) fun r7 =>
    if r7 = (10 : Int32) then (
      f_X9_next_j26l0 N M  )
    else (
      some (.inr M)))
def f_X9_next_j300 (N : Nat) (M : wg_M)  (x1 : Int32) : Option wg_M :=
  lt_ (wg_sM M 55 24 (3 : Int32)) fun M28 =>
  lt_ (wg_sJ M28 55 x1.toInt64) fun M30 =>
  lt_ (wg_sM M30 55 23 ((M30.1 55 23) + (1 : Int32))) fun M32 =>
  some M32
def f_X9_next_j216l160 (N : Nat) (M : wg_M)  (x2 : Int32) (s0 : Int64) : Option ((wg_M × Int32) ⊕ (wg_M × Int32)) :=
  lt_ (wg_sJ M 55 s0) fun M51 =>
  lt_ (x2 + (1 : Int32)) fun v53 =>
  lt_ (wg_sM M51 55 23 ((M51.1 55 23) + (1 : Int32))) fun M55 =>
  some (.inl (M55, v53))
def f_X9_next_l160 (N : Nat)   (M : wg_M) (x2 : Int32) : Option ((wg_M × Int32) ⊕ (wg_M × Int32)) :=
  bd (f_X9_byteAt M (M.1 55 23)) fun r46 =>
  bd (f_X9_in r46.toInt64 (48 : Int64) (57 : Int64)) fun r48 =>
  if r48 = 0 then (
    some (.inr (M, x2)))
  else (
    if (4 : Int32) ≤ x2 then (
      f_X9_next_j216l160 N M  x2 (M.2 55))
    else (
      bd (f_X9_byteAt M (M.1 55 23)) fun r58 =>
      f_X9_next_j216l160 N M  x2 ((((10 : Int64) * (M.2 55)) + r58.toInt64) - (48 : Int64))))
def f_X9_next_l100 (N : Nat)   (M : wg_M)  : Option ((wg_M) ⊕ (wg_M)) :=
  bd (f_X9_byteAt M (M.1 55 23)) fun r73 =>
  bd (f_X9_in r73.toInt64 (97 : Int64) (122 : Int64)) fun r75 =>
  if r75 = 0 then (
    some (.inr M))
  else (
    lt_ (wg_sM M 55 23 ((M.1 55 23) + (1 : Int32))) fun M77 =>
    some (.inl M77))
def f_X9_next (N : Nat) (M : wg_M)  : Option wg_M :=
  bd (lp (fun o => f_X9_next_l0 N   o) N M) fun M9 =>
  lt_ (wg_sM M9 55 25 (M9.1 55 23)) fun M14 =>
  bd (f_X9_byteAt M14 (M14.1 55 23)) fun r17 =>
  lt_ (wg_sM M14 55 24 (4 : Int32)) fun M18 =>
  if 0 ≤ r17 then (
    bd (f_X9_in r17.toInt64 (97 : Int64) (122 : Int64)) fun r22 =>
    if r22 = 0 then (
      bd (f_X9_in r17.toInt64 (48 : Int64) (57 : Int64)) fun r25 =>
      if r25 = 0 then (
        if r17 = (40 : Int32) then (
          f_X9_next_j300 N M18  r17)
        else (
          if r17 = (41 : Int32) then (
            f_X9_next_j300 N M18  r17)
          else (
            if r17 = (59 : Int32) then (
              f_X9_next_j300 N M18  r17)
            else (
              if r17 = (43 : Int32) then (
                f_X9_next_j300 N M18  r17)
              else (
                if r17 = (45 : Int32) then (
                  f_X9_next_j300 N M18  r17)
                else (
                  if r17 = (42 : Int32) then (
                    f_X9_next_j300 N M18  r17)
                  else (
                    if r17 = (60 : Int32) then (
                      f_X9_next_j300 N M18  r17)
                    else (
                      if r17 = (61 : Int32) then (
                        f_X9_next_j300 N M18  r17)
                      else (
                        some M18)))))))))
      else (
        lt_ (wg_sM M18 55 24 (2 : Int32)) fun M41 =>
        lt_ (wg_sJ M41 55 (0 : Int64)) fun M43 =>
        bd2 (lp (fun o => f_X9_next_l160 N   o.1 o.2) N (M43, (0 : Int32))) fun M59 v60 =>
        if v60 ≤ (4 : Int32) then (
          lt_ (wg_sM M59 55 24 (2 : Int32)) fun M66 =>
          some M66)
        else (
          lt_ (wg_sM M59 55 24 (4 : Int32)) fun M68 =>
          some M68)))
    else (
      lt_ (wg_sM M18 55 24 (1 : Int32)) fun M70 =>
      bd (lp (fun o => f_X9_next_l100 N   o) N M70) fun M79 =>
      some M79))
  else (
    lt_ (wg_sM M18 55 24 (0 : Int32)) fun M84 =>
    lt_ (wg_sM M84 55 25 (M84.1 55 22)) fun M86 =>
    some M86)
abbrev G_X9_next (p : Program) (l : Launch) (e : Env) (s : State) (m : MethodId) (args : Array Value) (below : List Frame) (meth : Method) (c : Code) (E : wg_Ev) (ad : Nat → Nat) (S : wg_Sh) (C0 : wg_C) (M0 : wg_M) (pc : Nat) (C : wg_C) (M : wg_M) (lv : List (Nat × Value)) (st : List Value) : Prop := wg_G p l e (wg_Rm 1 25) s m args below meth c (MQ below (wg_Qv E ad S C0 M0) args s 0 0 (wg_A E)) 3 E ad S 0 0 pc C M lv st
set_option maxHeartbeats 4000000 in
set_option maxRecDepth 100000 in
theorem J_X9_next_j26l0 {p : Program} {l : Launch} {e : Env} {s : State} {m : MethodId} {args : Array Value} {below : List Frame} {meth : Method} {c : Code} {E : wg_Ev} {ad : Nat → Nat} {S : wg_Sh} (X : wg_X p s m args meth c cX9_next 3 RX9 E) (hr : meth.sig.returnType = none) (hS : wg_SM S) (D0 : wg_M) (C : wg_C) (N : Nat)  (M : wg_M)    (y : ((wg_M) ⊕ (wg_M))) (Kc : ∀ (Dy : wg_M), y = Sum.inl Dy → G_X9_next p l e s m args below meth c E ad S C D0 0 C Dy [(0, .ref (ad 55))] []) (Ke : ∀ (Dy : wg_M), y = Sum.inr (Dy) → G_X9_next p l e s m args below meth c E ad S C D0 39 C Dy [(0, .ref (ad 55))] []) (h : f_X9_next_j26l0 N M   = some y) : G_X9_next p l e s m args below meth c E ad S C D0 26 C M [(0, .ref (ad 55))] [] := by
  unfold f_X9_next_j26l0 at h
  refine wg_aload_n X 0 dX9_next_26 rfl rfl ?_
  refine wg_dup X dX9_next_27 rfl ?_
  refine wg_getM X cl9 (SMi hS 55 9 rfl) 23 (by decide) dX9_next_28 k_905 rfl ?_
  refine wg_iconst (v := 1) X dX9_next_31 (by decide) ?_
  refine wg_iadd X dX9_next_32 ?_
  obtain ⟨M4, e5, h⟩ := lt_some h
  refine wg_putMe X cl9 (SMi hS 55 9 rfl) 23 (by decide) dX9_next_33 k_905 rfl rfl rfl rfl e5 ?_
  refine wg_goto X 0 dX9_next_36 (by decide) ?_
  exact Kc M4 (sm_inj h).symm
set_option maxHeartbeats 4000000 in
set_option maxRecDepth 100000 in
theorem L_X9_next_l0 {p : Program} {l : Launch} {e : Env} {s : State} {m : MethodId} {args : Array Value} {below : List Frame} {meth : Method} {c : Code} {E : wg_Ev} {ad : Nat → Nat} {S : wg_Sh} (X : wg_X p s m args meth c cX9_next 3 RX9 E) (hr : meth.sig.returnType = none) (hS : wg_SM S) (D0 : wg_M) (C : wg_C) (N : Nat)     : ∀ (n : Nat) (M : wg_M) (o : (wg_M)), lp (fun o => f_X9_next_l0 N   o) n M = some o → (∀ (Dy : wg_M), o = Dy → G_X9_next p l e s m args below meth c E ad S C D0 39 C Dy [(0, .ref (ad 55))] []) → G_X9_next p l e s m args below meth c E ad S C D0 0 C M [(0, .ref (ad 55))] [] := by
  intro n
  induction n with
  | zero => exact fun _ o h => (lp_zero h).elim
  | succ n ih =>
    intro M o h K
    obtain ⟨o1, hb, h2⟩ := lp_some h
    replace hb : f_X9_next_l0 N   M = some o1 := hb
    clear h
    have Kc : ∀ (Dy : wg_M), o1 = Sum.inl Dy → G_X9_next p l e s m args below meth c E ad S C D0 0 C Dy [(0, .ref (ad 55))] [] := fun Dy e1 => by
      subst e1
      exact ih Dy o h2 K
    have Ke : ∀ (Dy : wg_M), o1 = Sum.inr (Dy) → G_X9_next p l e s m args below meth c E ad S C D0 39 C Dy [(0, .ref (ad 55))] [] := fun Dy e1 => by
      subst e1
      exact K Dy (sm_inj (α := (wg_M)) h2).symm
    clear ih K h2
    unfold f_X9_next_l0 at hb
    have h := hb
    clear hb
    refine wg_aload_n X 0 dX9_next_0 rfl rfl ?_
    refine wg_aload_n X 0 dX9_next_1 rfl rfl ?_
    refine wg_getM X cl9 (SMi hS 55 9 rfl) 23 (by decide) dX9_next_2 k_905 rfl ?_
    obtain ⟨r2, h1, h⟩ := bd_some h
    refine wg_callVi (As := [.int (M.1 55 23)]) (rest := []) X (c_X9_byteAt l E ad S hS C M (M.1 55 23)  h1) T_yX9_byteAt k_1087 cl9 (SMi hS 55 9 rfl) dX9_next_5 rfl rfl (Nat.le_of_ble_eq_true rfl) ⟨Nat.le_of_ble_eq_true rfl, Nat.le_of_ble_eq_true rfl⟩ ⟨Nat.zero_le _, Nat.zero_le _⟩ ?_
    refine wg_bipush (v := 32) X dX9_next_8 (by decide) ?_
    refine wg_icmp_eq X 26 dX9_next_10 (by decide) (fun c3 => ?_) (fun c3 => ?_)
    · have h := if_t c3 h
      exact J_X9_next_j26l0 X hr hS D0 C N  M    _ Kc Ke h
    · have h := if_f c3 h
      refine wg_aload_n X 0 dX9_next_13 rfl rfl ?_
      refine wg_aload_n X 0 dX9_next_14 rfl rfl ?_
      refine wg_getM X cl9 (SMi hS 55 9 rfl) 23 (by decide) dX9_next_15 k_905 rfl ?_
      obtain ⟨r7, h6, h⟩ := bd_some h
      refine wg_callVi (As := [.int (M.1 55 23)]) (rest := []) X (c_X9_byteAt l E ad S hS C M (M.1 55 23)  h6) T_yX9_byteAt k_1087 cl9 (SMi hS 55 9 rfl) dX9_next_18 rfl rfl (Nat.le_of_ble_eq_true rfl) ⟨Nat.le_of_ble_eq_true rfl, Nat.le_of_ble_eq_true rfl⟩ ⟨Nat.zero_le _, Nat.zero_le _⟩ ?_
      refine wg_bipush (v := 10) X dX9_next_21 (by decide) ?_
      refine wg_icmp_ne X 39 dX9_next_23 (by decide) (fun c8 => ?_) (fun c8 => ?_)
      · have h := if_f c8 h
        exact Ke M (sm_inj h).symm
      · have h := if_t c8 h
        exact J_X9_next_j26l0 X hr hS D0 C N  M    _ Kc Ke h
set_option maxHeartbeats 4000000 in
set_option maxRecDepth 100000 in
theorem J_X9_next_j300 {p : Program} {l : Launch} {e : Env} {s : State} {m : MethodId} {args : Array Value} {below : List Frame} {meth : Method} {c : Code} {E : wg_Ev} {ad : Nat → Nat} {S : wg_Sh} (X : wg_X p s m args meth c cX9_next 3 RX9 E) (hr : meth.sig.returnType = none) (hS : wg_SM S) (D0 : wg_M) (C : wg_C) (N : Nat)  (M : wg_M)  (x1 : Int32)   (h : f_X9_next_j300 N M  x1 = some D0) : G_X9_next p l e s m args below meth c E ad S C D0 300 C M [(0, .ref (ad 55)), (1, .int x1)] [] := by
  unfold f_X9_next_j300 at h
  refine wg_aload_n X 0 dX9_next_300 rfl rfl ?_
  refine wg_iconst (v := 3) X dX9_next_301 (by decide) ?_
  obtain ⟨M28, e29, h⟩ := lt_some h
  refine wg_putMe X cl9 (SMi hS 55 9 rfl) 24 (by decide) dX9_next_302 k_906 rfl rfl rfl rfl e29 ?_
  refine wg_aload_n X 0 dX9_next_305 rfl rfl ?_
  refine wg_iload_n X 1 dX9_next_306 rfl rfl ?_
  refine wg_i2l X dX9_next_307 ?_
  obtain ⟨M30, e31, h⟩ := lt_some h
  refine wg_putJe X cl9 (SMi hS 55 9 rfl) 26 (by decide) dX9_next_308 k_908 rfl rfl wg_Jonly rfl rfl e31 ?_
  refine wg_aload_n X 0 dX9_next_311 rfl rfl ?_
  refine wg_dup X dX9_next_312 rfl ?_
  refine wg_getM X cl9 (SMi hS 55 9 rfl) 23 (by decide) dX9_next_313 k_905 rfl ?_
  refine wg_iconst (v := 1) X dX9_next_316 (by decide) ?_
  refine wg_iadd X dX9_next_317 ?_
  obtain ⟨M32, e33, h⟩ := lt_some h
  refine wg_putMe X cl9 (SMi hS 55 9 rfl) 23 (by decide) dX9_next_318 k_905 rfl rfl rfl rfl e33 ?_
  exact wg_vret X ⟨rfl, (sm_inj h)⟩ hr dX9_next_321
set_option maxHeartbeats 4000000 in
set_option maxRecDepth 100000 in
theorem J_X9_next_j216l160 {p : Program} {l : Launch} {e : Env} {s : State} {m : MethodId} {args : Array Value} {below : List Frame} {meth : Method} {c : Code} {E : wg_Ev} {ad : Nat → Nat} {S : wg_Sh} (X : wg_X p s m args meth c cX9_next 3 RX9 E) (hr : meth.sig.returnType = none) (hS : wg_SM S) (D0 : wg_M) (C : wg_C) (N : Nat)  (M : wg_M)  (x2 : Int32) (s0 : Int64)  (y : ((wg_M × Int32) ⊕ (wg_M × Int32))) (Kc : ∀ (Dy : wg_M) (y2 : Int32), y = Sum.inl (Dy, y2) → G_X9_next p l e s m args below meth c E ad S C D0 160 C Dy [(0, .ref (ad 55)), (2, .int y2)] []) (Ke : ∀ (Dy : wg_M) (y2 : Int32), y = Sum.inr ((Dy, y2)) → G_X9_next p l e s m args below meth c E ad S C D0 235 C Dy [(0, .ref (ad 55)), (2, .int y2)] []) (h : f_X9_next_j216l160 N M  x2 s0 = some y) : G_X9_next p l e s m args below meth c E ad S C D0 216 C M [(0, .ref (ad 55)), (2, .int x2)] [.long s0, .ref (ad 55)] := by
  unfold f_X9_next_j216l160 at h
  obtain ⟨M51, e52, h⟩ := lt_some h
  refine wg_putJe X cl9 (SMi hS 55 9 rfl) 26 (by decide) dX9_next_216 k_908 rfl rfl wg_Jonly rfl rfl e52 ?_
  obtain ⟨v53, e54, h⟩ := lt_some h
  refine wg_iinc (lv' := [(2, .int v53), (0, .ref (ad 55))]) X 1 dX9_next_219 rfl e54 (by decide) rfl ?_
  refine wg_aload_n X 1 dX9_next_222 rfl rfl ?_
  refine wg_dup X dX9_next_223 rfl ?_
  refine wg_getM X cl9 (SMi hS 55 9 rfl) 23 (by decide) dX9_next_224 k_905 rfl ?_
  refine wg_iconst (v := 1) X dX9_next_227 (by decide) ?_
  refine wg_iadd X dX9_next_228 ?_
  obtain ⟨M55, e56, h⟩ := lt_some h
  refine wg_putMe X cl9 (SMi hS 55 9 rfl) 23 (by decide) dX9_next_229 k_905 rfl rfl rfl rfl e56 ?_
  refine wg_goto X 160 dX9_next_232 (by decide) ?_
  refine wg_pick [1, 0] (lv' := [(0, .ref (ad 55)), (2, .int v53)]) rfl ?_
  exact Kc M55 v53 (sm_inj h).symm
set_option maxHeartbeats 4000000 in
set_option maxRecDepth 100000 in
theorem L_X9_next_l160 {p : Program} {l : Launch} {e : Env} {s : State} {m : MethodId} {args : Array Value} {below : List Frame} {meth : Method} {c : Code} {E : wg_Ev} {ad : Nat → Nat} {S : wg_Sh} (X : wg_X p s m args meth c cX9_next 3 RX9 E) (hr : meth.sig.returnType = none) (hS : wg_SM S) (D0 : wg_M) (C : wg_C) (N : Nat)     : ∀ (n : Nat) (M : wg_M) (x2 : Int32) (o : (wg_M × Int32)), lp (fun o => f_X9_next_l160 N   o.1 o.2) n (M, x2) = some o → (∀ (Dy : wg_M) (y2 : Int32), o = (Dy, y2) → G_X9_next p l e s m args below meth c E ad S C D0 235 C Dy [(0, .ref (ad 55)), (2, .int y2)] []) → G_X9_next p l e s m args below meth c E ad S C D0 160 C M [(0, .ref (ad 55)), (2, .int x2)] [] := by
  intro n
  induction n with
  | zero => exact fun _ _ o h => (lp_zero h).elim
  | succ n ih =>
    intro M x2 o h K
    obtain ⟨o1, hb, h2⟩ := lp_some h
    replace hb : f_X9_next_l160 N   M x2 = some o1 := hb
    clear h
    have Kc : ∀ (Dy : wg_M) (y2 : Int32), o1 = Sum.inl (Dy, y2) → G_X9_next p l e s m args below meth c E ad S C D0 160 C Dy [(0, .ref (ad 55)), (2, .int y2)] [] := fun Dy y2 e1 => by
      subst e1
      exact ih Dy y2 o h2 K
    have Ke : ∀ (Dy : wg_M) (y2 : Int32), o1 = Sum.inr ((Dy, y2)) → G_X9_next p l e s m args below meth c E ad S C D0 235 C Dy [(0, .ref (ad 55)), (2, .int y2)] [] := fun Dy y2 e1 => by
      subst e1
      exact K Dy y2 (sm_inj (α := (wg_M × Int32)) h2).symm
    clear ih K h2
    unfold f_X9_next_l160 at hb
    have h := hb
    clear hb
    refine wg_aload_n X 0 dX9_next_160 rfl rfl ?_
    refine wg_aload_n X 0 dX9_next_161 rfl rfl ?_
    refine wg_getM X cl9 (SMi hS 55 9 rfl) 23 (by decide) dX9_next_162 k_905 rfl ?_
    obtain ⟨r46, h45, h⟩ := bd_some h
    refine wg_callVi (As := [.int (M.1 55 23)]) (rest := []) X (c_X9_byteAt l E ad S hS C M (M.1 55 23)  h45) T_yX9_byteAt k_1087 cl9 (SMi hS 55 9 rfl) dX9_next_165 rfl rfl (Nat.le_of_ble_eq_true rfl) ⟨Nat.le_of_ble_eq_true rfl, Nat.le_of_ble_eq_true rfl⟩ ⟨Nat.zero_le _, Nat.zero_le _⟩ ?_
    refine wg_i2l X dX9_next_168 ?_
    refine wg_ldc2 (v := 48) X dX9_next_169 k_1093 ?_
    refine wg_ldc2 (v := 57) X dX9_next_172 k_1094 ?_
    obtain ⟨r48, h47, h⟩ := bd_some h
    refine wg_callSi (As := [.long (r46.toInt64), .long (48 : Int64), .long (57 : Int64)]) (rest := []) X (c_X9_in l E ad S C M r46.toInt64 (48 : Int64) (57 : Int64)  h47) T_yX9_in k_1021 dX9_next_175 rfl rfl (Nat.le_of_ble_eq_true rfl) ⟨Nat.le_of_ble_eq_true rfl, Nat.le_of_ble_eq_true rfl⟩ ⟨Nat.zero_le _, Nat.zero_le _⟩ ?_
    refine wg_if_eq X 235 dX9_next_178 (by decide) (fun c49 => ?_) (fun c49 => ?_)
    · have h := if_t c49 h
      exact Ke M x2 (sm_inj h).symm
    · have h := if_f c49 h
      refine wg_aload_n X 0 dX9_next_181 rfl rfl ?_
      refine wg_iload_n X 1 dX9_next_182 rfl rfl ?_
      refine wg_iconst (v := 4) X dX9_next_183 (by decide) ?_
      refine wg_icmp_ge X 212 dX9_next_184 (by decide) (fun c50 => ?_) (fun c50 => ?_)
      · have h := if_t c50 h
        refine wg_aload_n X 0 dX9_next_212 rfl rfl ?_
        refine wg_getJ X cl9 (SMi hS 55 9 rfl) 26 (by decide) dX9_next_213 k_908 rfl ?_
        exact J_X9_next_j216l160 X hr hS D0 C N  M  x2 (M.2 55)  _ Kc Ke h
      · have h := if_f c50 h
        refine wg_ldc2 (v := 10) X dX9_next_187 k_1095 ?_
        refine wg_aload_n X 0 dX9_next_190 rfl rfl ?_
        refine wg_getJ X cl9 (SMi hS 55 9 rfl) 26 (by decide) dX9_next_191 k_908 rfl ?_
        refine wg_lmul X dX9_next_194 ?_
        refine wg_aload_n X 0 dX9_next_195 rfl rfl ?_
        refine wg_aload_n X 0 dX9_next_196 rfl rfl ?_
        refine wg_getM X cl9 (SMi hS 55 9 rfl) 23 (by decide) dX9_next_197 k_905 rfl ?_
        obtain ⟨r58, h57, h⟩ := bd_some h
        refine wg_callVi (As := [.int (M.1 55 23)]) (rest := [.long ((10 : Int64) * (M.2 55)), .ref (ad 55)]) X (c_X9_byteAt l E ad S hS C M (M.1 55 23)  h57) T_yX9_byteAt k_1087 cl9 (SMi hS 55 9 rfl) dX9_next_200 rfl rfl (Nat.le_of_ble_eq_true rfl) ⟨Nat.le_of_ble_eq_true rfl, Nat.le_of_ble_eq_true rfl⟩ ⟨Nat.zero_le _, Nat.zero_le _⟩ ?_
        refine wg_i2l X dX9_next_203 ?_
        refine wg_ladd X dX9_next_204 ?_
        refine wg_ldc2 (v := 48) X dX9_next_205 k_1093 ?_
        refine wg_lsub X dX9_next_208 ?_
        refine wg_goto X 216 dX9_next_209 (by decide) ?_
        exact J_X9_next_j216l160 X hr hS D0 C N  M  x2 ((((10 : Int64) * (M.2 55)) + r58.toInt64) - (48 : Int64))  _ Kc Ke h
set_option maxHeartbeats 4000000 in
set_option maxRecDepth 100000 in
theorem L_X9_next_l100 {p : Program} {l : Launch} {e : Env} {s : State} {m : MethodId} {args : Array Value} {below : List Frame} {meth : Method} {c : Code} {E : wg_Ev} {ad : Nat → Nat} {S : wg_Sh} (X : wg_X p s m args meth c cX9_next 3 RX9 E) (hr : meth.sig.returnType = none) (hS : wg_SM S) (D0 : wg_M) (C : wg_C) (N : Nat)     : ∀ (n : Nat) (M : wg_M) (o : (wg_M)), lp (fun o => f_X9_next_l100 N   o) n M = some o → (∀ (Dy : wg_M), o = Dy → G_X9_next p l e s m args below meth c E ad S C D0 321 C Dy [(0, .ref (ad 55))] []) → G_X9_next p l e s m args below meth c E ad S C D0 100 C M [(0, .ref (ad 55))] [] := by
  intro n
  induction n with
  | zero => exact fun _ o h => (lp_zero h).elim
  | succ n ih =>
    intro M o h K
    obtain ⟨o1, hb, h2⟩ := lp_some h
    replace hb : f_X9_next_l100 N   M = some o1 := hb
    clear h
    have Kc : ∀ (Dy : wg_M), o1 = Sum.inl Dy → G_X9_next p l e s m args below meth c E ad S C D0 100 C Dy [(0, .ref (ad 55))] [] := fun Dy e1 => by
      subst e1
      exact ih Dy o h2 K
    have Ke : ∀ (Dy : wg_M), o1 = Sum.inr (Dy) → G_X9_next p l e s m args below meth c E ad S C D0 321 C Dy [(0, .ref (ad 55))] [] := fun Dy e1 => by
      subst e1
      exact K Dy (sm_inj (α := (wg_M)) h2).symm
    clear ih K h2
    unfold f_X9_next_l100 at hb
    have h := hb
    clear hb
    refine wg_aload_n X 0 dX9_next_100 rfl rfl ?_
    refine wg_aload_n X 0 dX9_next_101 rfl rfl ?_
    refine wg_getM X cl9 (SMi hS 55 9 rfl) 23 (by decide) dX9_next_102 k_905 rfl ?_
    obtain ⟨r73, h72, h⟩ := bd_some h
    refine wg_callVi (As := [.int (M.1 55 23)]) (rest := []) X (c_X9_byteAt l E ad S hS C M (M.1 55 23)  h72) T_yX9_byteAt k_1087 cl9 (SMi hS 55 9 rfl) dX9_next_105 rfl rfl (Nat.le_of_ble_eq_true rfl) ⟨Nat.le_of_ble_eq_true rfl, Nat.le_of_ble_eq_true rfl⟩ ⟨Nat.zero_le _, Nat.zero_le _⟩ ?_
    refine wg_i2l X dX9_next_108 ?_
    refine wg_ldc2 (v := 97) X dX9_next_109 k_1091 ?_
    refine wg_ldc2 (v := 122) X dX9_next_112 k_1092 ?_
    obtain ⟨r75, h74, h⟩ := bd_some h
    refine wg_callSi (As := [.long (r73.toInt64), .long (97 : Int64), .long (122 : Int64)]) (rest := []) X (c_X9_in l E ad S C M r73.toInt64 (97 : Int64) (122 : Int64)  h74) T_yX9_in k_1021 dX9_next_115 rfl rfl (Nat.le_of_ble_eq_true rfl) ⟨Nat.le_of_ble_eq_true rfl, Nat.le_of_ble_eq_true rfl⟩ ⟨Nat.zero_le _, Nat.zero_le _⟩ ?_
    refine wg_if_eq X 321 dX9_next_118 (by decide) (fun c76 => ?_) (fun c76 => ?_)
    · have h := if_t c76 h
      exact Ke M (sm_inj h).symm
    · have h := if_f c76 h
      refine wg_aload_n X 0 dX9_next_121 rfl rfl ?_
      refine wg_dup X dX9_next_122 rfl ?_
      refine wg_getM X cl9 (SMi hS 55 9 rfl) 23 (by decide) dX9_next_123 k_905 rfl ?_
      refine wg_iconst (v := 1) X dX9_next_126 (by decide) ?_
      refine wg_iadd X dX9_next_127 ?_
      obtain ⟨M77, e78, h⟩ := lt_some h
      refine wg_putMe X cl9 (SMi hS 55 9 rfl) 23 (by decide) dX9_next_128 k_905 rfl rfl rfl rfl e78 ?_
      refine wg_goto X 100 dX9_next_131 (by decide) ?_
      exact Kc M77 (sm_inj h).symm
set_option maxHeartbeats 4000000 in
set_option maxRecDepth 100000 in
theorem c_X9_next (l : Launch) (E : wg_Ev) (ad : Nat → Nat) (S : wg_Sh) (hS : wg_SM S) (N : Nat) (C : wg_C) (M : wg_M)   {D0 : wg_M} (h : f_X9_next N M  = some D0) : wg_Cv l yX9_next cX9_next 3 none 1 25 E ad S C M [.ref (ad 55)] C D0 := by
  refine wg_start (own := RX9) (by decide +kernel) rfl (Nat.le_of_ble_eq_true rfl) ?_
  intro p e s m below meth c X hr hnm
  refine wg_lv (lv' := [(0, .ref (ad 55))]) rfl ?_
  unfold f_X9_next at h
  obtain ⟨o10, h11, h⟩ := bd_o h
  refine L_X9_next_l0 X hr hS D0 C N     N M o10 h11 (fun M9 e13 => ?_)
  · subst e13
    replace h := bd_in h
    refine wg_aload_n X 0 dX9_next_39 rfl rfl ?_
    refine wg_aload_n X 0 dX9_next_40 rfl rfl ?_
    refine wg_getM X cl9 (SMi hS 55 9 rfl) 23 (by decide) dX9_next_41 k_905 rfl ?_
    obtain ⟨M14, e15, h⟩ := lt_some h
    refine wg_putMe X cl9 (SMi hS 55 9 rfl) 25 (by decide) dX9_next_44 k_907 rfl rfl rfl rfl e15 ?_
    refine wg_aload_n X 0 dX9_next_47 rfl rfl ?_
    refine wg_aload_n X 0 dX9_next_48 rfl rfl ?_
    refine wg_getM X cl9 (SMi hS 55 9 rfl) 23 (by decide) dX9_next_49 k_905 rfl ?_
    obtain ⟨r17, h16, h⟩ := bd_some h
    refine wg_callVi (As := [.int (M14.1 55 23)]) (rest := []) X (c_X9_byteAt l E ad S hS C M14 (M14.1 55 23)  h16) T_yX9_byteAt k_1087 cl9 (SMi hS 55 9 rfl) dX9_next_52 rfl rfl (Nat.le_of_ble_eq_true rfl) ⟨Nat.le_of_ble_eq_true rfl, Nat.le_of_ble_eq_true rfl⟩ ⟨Nat.zero_le _, Nat.zero_le _⟩ ?_
    refine wg_istore_n (lv' := [(1, .int r17), (0, .ref (ad 55))]) X dX9_next_55 rfl rfl (by decide) rfl ?_
    refine wg_aload_n X 1 dX9_next_56 rfl rfl ?_
    refine wg_iconst (v := 4) X dX9_next_57 (by decide) ?_
    obtain ⟨M18, e19, h⟩ := lt_some h
    refine wg_putMe X cl9 (SMi hS 55 9 rfl) 24 (by decide) dX9_next_58 k_906 rfl rfl rfl rfl e19 ?_
    refine wg_iload_n X 0 dX9_next_61 rfl rfl ?_
    refine wg_if_ge X 81 dX9_next_62 (by decide) (fun c20 => ?_) (fun c20 => ?_)
    · have h := if_t c20 h
      refine wg_iload_n X 0 dX9_next_81 rfl rfl ?_
      refine wg_i2l X dX9_next_82 ?_
      refine wg_ldc2 (v := 97) X dX9_next_83 k_1091 ?_
      refine wg_ldc2 (v := 122) X dX9_next_86 k_1092 ?_
      obtain ⟨r22, h21, h⟩ := bd_some h
      refine wg_callSi (As := [.long (r17.toInt64), .long (97 : Int64), .long (122 : Int64)]) (rest := []) X (c_X9_in l E ad S C M18 r17.toInt64 (97 : Int64) (122 : Int64)  h21) T_yX9_in k_1021 dX9_next_89 rfl rfl (Nat.le_of_ble_eq_true rfl) ⟨Nat.le_of_ble_eq_true rfl, Nat.le_of_ble_eq_true rfl⟩ ⟨Nat.zero_le _, Nat.zero_le _⟩ ?_
      refine wg_if_eq X 134 dX9_next_92 (by decide) (fun c23 => ?_) (fun c23 => ?_)
      · have h := if_t c23 h
        refine wg_iload_n X 0 dX9_next_134 rfl rfl ?_
        refine wg_i2l X dX9_next_135 ?_
        refine wg_ldc2 (v := 48) X dX9_next_136 k_1093 ?_
        refine wg_ldc2 (v := 57) X dX9_next_139 k_1094 ?_
        obtain ⟨r25, h24, h⟩ := bd_some h
        refine wg_callSi (As := [.long (r17.toInt64), .long (48 : Int64), .long (57 : Int64)]) (rest := []) X (c_X9_in l E ad S C M18 r17.toInt64 (48 : Int64) (57 : Int64)  h24) T_yX9_in k_1021 dX9_next_142 rfl rfl (Nat.le_of_ble_eq_true rfl) ⟨Nat.le_of_ble_eq_true rfl, Nat.le_of_ble_eq_true rfl⟩ ⟨Nat.zero_le _, Nat.zero_le _⟩ ?_
        refine wg_if_eq X 252 dX9_next_145 (by decide) (fun c26 => ?_) (fun c26 => ?_)
        · have h := if_t c26 h
          refine wg_iload_n X 0 dX9_next_252 rfl rfl ?_
          refine wg_bipush (v := 40) X dX9_next_253 (by decide) ?_
          refine wg_icmp_eq X 300 dX9_next_255 (by decide) (fun c27 => ?_) (fun c27 => ?_)
          · have h := if_t c27 h
            refine wg_pick [1, 0] (lv' := [(0, .ref (ad 55)), (1, .int r17)]) rfl ?_
            exact J_X9_next_j300 X hr hS D0 C N  M18  r17   h
          · have h := if_f c27 h
            refine wg_iload_n X 0 dX9_next_258 rfl rfl ?_
            refine wg_bipush (v := 41) X dX9_next_259 (by decide) ?_
            refine wg_icmp_eq X 300 dX9_next_261 (by decide) (fun c34 => ?_) (fun c34 => ?_)
            · have h := if_t c34 h
              refine wg_pick [1, 0] (lv' := [(0, .ref (ad 55)), (1, .int r17)]) rfl ?_
              exact J_X9_next_j300 X hr hS D0 C N  M18  r17   h
            · have h := if_f c34 h
              refine wg_iload_n X 0 dX9_next_264 rfl rfl ?_
              refine wg_bipush (v := 59) X dX9_next_265 (by decide) ?_
              refine wg_icmp_eq X 300 dX9_next_267 (by decide) (fun c35 => ?_) (fun c35 => ?_)
              · have h := if_t c35 h
                refine wg_pick [1, 0] (lv' := [(0, .ref (ad 55)), (1, .int r17)]) rfl ?_
                exact J_X9_next_j300 X hr hS D0 C N  M18  r17   h
              · have h := if_f c35 h
                refine wg_iload_n X 0 dX9_next_270 rfl rfl ?_
                refine wg_bipush (v := 43) X dX9_next_271 (by decide) ?_
                refine wg_icmp_eq X 300 dX9_next_273 (by decide) (fun c36 => ?_) (fun c36 => ?_)
                · have h := if_t c36 h
                  refine wg_pick [1, 0] (lv' := [(0, .ref (ad 55)), (1, .int r17)]) rfl ?_
                  exact J_X9_next_j300 X hr hS D0 C N  M18  r17   h
                · have h := if_f c36 h
                  refine wg_iload_n X 0 dX9_next_276 rfl rfl ?_
                  refine wg_bipush (v := 45) X dX9_next_277 (by decide) ?_
                  refine wg_icmp_eq X 300 dX9_next_279 (by decide) (fun c37 => ?_) (fun c37 => ?_)
                  · have h := if_t c37 h
                    refine wg_pick [1, 0] (lv' := [(0, .ref (ad 55)), (1, .int r17)]) rfl ?_
                    exact J_X9_next_j300 X hr hS D0 C N  M18  r17   h
                  · have h := if_f c37 h
                    refine wg_iload_n X 0 dX9_next_282 rfl rfl ?_
                    refine wg_bipush (v := 42) X dX9_next_283 (by decide) ?_
                    refine wg_icmp_eq X 300 dX9_next_285 (by decide) (fun c38 => ?_) (fun c38 => ?_)
                    · have h := if_t c38 h
                      refine wg_pick [1, 0] (lv' := [(0, .ref (ad 55)), (1, .int r17)]) rfl ?_
                      exact J_X9_next_j300 X hr hS D0 C N  M18  r17   h
                    · have h := if_f c38 h
                      refine wg_iload_n X 0 dX9_next_288 rfl rfl ?_
                      refine wg_bipush (v := 60) X dX9_next_289 (by decide) ?_
                      refine wg_icmp_eq X 300 dX9_next_291 (by decide) (fun c39 => ?_) (fun c39 => ?_)
                      · have h := if_t c39 h
                        refine wg_pick [1, 0] (lv' := [(0, .ref (ad 55)), (1, .int r17)]) rfl ?_
                        exact J_X9_next_j300 X hr hS D0 C N  M18  r17   h
                      · have h := if_f c39 h
                        refine wg_iload_n X 0 dX9_next_294 rfl rfl ?_
                        refine wg_bipush (v := 61) X dX9_next_295 (by decide) ?_
                        refine wg_icmp_ne X 321 dX9_next_297 (by decide) (fun c40 => ?_) (fun c40 => ?_)
                        · have h := if_f c40 h
                          exact wg_vret X ⟨rfl, (sm_inj h)⟩ hr dX9_next_321
                        · have h := if_t c40 h
                          refine wg_pick [1, 0] (lv' := [(0, .ref (ad 55)), (1, .int r17)]) rfl ?_
                          exact J_X9_next_j300 X hr hS D0 C N  M18  r17   h
        · have h := if_f c26 h
          refine wg_aload_n X 1 dX9_next_148 rfl rfl ?_
          refine wg_iconst (v := 2) X dX9_next_149 (by decide) ?_
          obtain ⟨M41, e42, h⟩ := lt_some h
          refine wg_putMe X cl9 (SMi hS 55 9 rfl) 24 (by decide) dX9_next_150 k_906 rfl rfl rfl rfl e42 ?_
          refine wg_aload_n X 1 dX9_next_153 rfl rfl ?_
          refine wg_lconst (v := 0) X dX9_next_154 (by decide) ?_
          obtain ⟨M43, e44, h⟩ := lt_some h
          refine wg_putJe X cl9 (SMi hS 55 9 rfl) 26 (by decide) dX9_next_155 k_908 rfl rfl wg_Jonly rfl rfl e44 ?_
          refine wg_iconst (v := 0) X dX9_next_158 (by decide) ?_
          refine wg_istore_n (lv' := [(2, .int (0 : Int32)), (1, .int r17), (0, .ref (ad 55))]) X dX9_next_159 rfl rfl (by decide) rfl ?_
          obtain ⟨o61, h62, h⟩ := bd2_o h
          refine wg_pick [2, 0] (lv' := [(0, .ref (ad 55)), (2, .int (0 : Int32))]) rfl ?_
          refine L_X9_next_l160 X hr hS D0 C N     N M43 (0 : Int32) o61 h62 (fun M59 v60 e64 => ?_)
          · subst e64
            replace h := bd2_in h
            refine wg_aload_n X 0 dX9_next_235 rfl rfl ?_
            refine wg_iload_n X 1 dX9_next_236 rfl rfl ?_
            refine wg_iconst (v := 4) X dX9_next_237 (by decide) ?_
            refine wg_icmp_le X 245 dX9_next_238 (by decide) (fun c65 => ?_) (fun c65 => ?_)
            · have h := if_t c65 h
              refine wg_iconst (v := 2) X dX9_next_245 (by decide) ?_
              obtain ⟨M66, e67, h⟩ := lt_some h
              refine wg_putMe X cl9 (SMi hS 55 9 rfl) 24 (by decide) dX9_next_246 k_906 rfl rfl rfl rfl e67 ?_
              refine wg_goto X 321 dX9_next_249 (by decide) ?_
              exact wg_vret X ⟨rfl, (sm_inj h)⟩ hr dX9_next_321
            · have h := if_f c65 h
              refine wg_iconst (v := 4) X dX9_next_241 (by decide) ?_
              refine wg_goto X 246 dX9_next_242 (by decide) ?_
              obtain ⟨M68, e69, h⟩ := lt_some h
              refine wg_putMe X cl9 (SMi hS 55 9 rfl) 24 (by decide) dX9_next_246 k_906 rfl rfl rfl rfl e69 ?_
              refine wg_goto X 321 dX9_next_249 (by decide) ?_
              exact wg_vret X ⟨rfl, (sm_inj h)⟩ hr dX9_next_321
      · have h := if_f c23 h
        refine wg_aload_n X 1 dX9_next_95 rfl rfl ?_
        refine wg_iconst (v := 1) X dX9_next_96 (by decide) ?_
        obtain ⟨M70, e71, h⟩ := lt_some h
        refine wg_putMe X cl9 (SMi hS 55 9 rfl) 24 (by decide) dX9_next_97 k_906 rfl rfl rfl rfl e71 ?_
        obtain ⟨o80, h81, h⟩ := bd_o h
        refine wg_pick [1] (lv' := [(0, .ref (ad 55))]) rfl ?_
        refine L_X9_next_l100 X hr hS D0 C N     N M70 o80 h81 (fun M79 e83 => ?_)
        · subst e83
          replace h := bd_in h
          exact wg_vret X ⟨rfl, (sm_inj h)⟩ hr dX9_next_321
    · have h := if_f c20 h
      refine wg_aload_n X 1 dX9_next_65 rfl rfl ?_
      refine wg_iconst (v := 0) X dX9_next_66 (by decide) ?_
      obtain ⟨M84, e85, h⟩ := lt_some h
      refine wg_putMe X cl9 (SMi hS 55 9 rfl) 24 (by decide) dX9_next_67 k_906 rfl rfl rfl rfl e85 ?_
      refine wg_aload_n X 1 dX9_next_70 rfl rfl ?_
      refine wg_aload_n X 1 dX9_next_71 rfl rfl ?_
      refine wg_getM X cl9 (SMi hS 55 9 rfl) 22 (by decide) dX9_next_72 k_904 rfl ?_
      obtain ⟨M86, e87, h⟩ := lt_some h
      refine wg_putMe X cl9 (SMi hS 55 9 rfl) 25 (by decide) dX9_next_75 k_907 rfl rfl rfl rfl e87 ?_
      refine wg_goto X 321 dX9_next_78 (by decide) ?_
      exact wg_vret X ⟨rfl, (sm_inj h)⟩ hr dX9_next_321
-- WindowsGiveModel.fail()V (('c', 55),)
def f_X9_fail (M : wg_M)  : Option wg_M :=
  if (M.1 55 28) = 0 then (
    lt_ (wg_sM M 55 28 (1 : Int32)) fun M2 =>
    lt_ (wg_sM M2 55 29 (M2.1 55 25)) fun M4 =>
    some M4)
  else (
    some M)
set_option maxHeartbeats 4000000 in
set_option maxRecDepth 100000 in
theorem c_X9_fail (l : Launch) (E : wg_Ev) (ad : Nat → Nat) (S : wg_Sh) (hS : wg_SM S) (C : wg_C) (M : wg_M)   {D0 : wg_M} (h : f_X9_fail M  = some D0) : wg_Cv l yX9_fail cX9_fail 1 none 0 0 E ad S C M [.ref (ad 55)] C D0 := by
  refine wg_start (own := RX9) (by decide +kernel) rfl (Nat.le_of_ble_eq_true rfl) ?_
  intro p e s m below meth c X hr hnm
  refine wg_lv (lv' := [(0, .ref (ad 55))]) rfl ?_
  unfold f_X9_fail at h
  refine wg_aload_n X 0 dX9_fail_0 rfl rfl ?_
  refine wg_getM X cl9 (SMi hS 55 9 rfl) 28 (by decide) dX9_fail_1 k_910 rfl ?_
  refine wg_if_ne X 20 dX9_fail_4 (by decide) (fun c1 => ?_) (fun c1 => ?_)
  · have h := if_f c1 h
    exact wg_vret X ⟨rfl, (sm_inj h)⟩ hr dX9_fail_20
  · have h := if_t c1 h
    refine wg_aload_n X 0 dX9_fail_7 rfl rfl ?_
    refine wg_iconst (v := 1) X dX9_fail_8 (by decide) ?_
    obtain ⟨M2, e3, h⟩ := lt_some h
    refine wg_putMe X cl9 (SMi hS 55 9 rfl) 28 (by decide) dX9_fail_9 k_910 rfl rfl (by decide) (by decide) e3 ?_
    refine wg_aload_n X 0 dX9_fail_12 rfl rfl ?_
    refine wg_aload_n X 0 dX9_fail_13 rfl rfl ?_
    refine wg_getM X cl9 (SMi hS 55 9 rfl) 25 (by decide) dX9_fail_14 k_907 rfl ?_
    obtain ⟨M4, e5, h⟩ := lt_some h
    refine wg_putMe X cl9 (SMi hS 55 9 rfl) 29 (by decide) dX9_fail_17 k_911 rfl rfl rfl rfl e5 ?_
    exact wg_vret X ⟨rfl, (sm_inj h)⟩ hr dX9_fail_20
-- WindowsGiveModel.isLetter(II)Z (('c', 55), 'i', 'i')
def f_X9_isLetter (M : wg_M) (p1 : Int32) (p2 : Int32) : Option Int32 :=
  if (M.1 55 23) ≤ ((M.1 55 25) + p1) then (
    if p2 = 0 then (
      some (1 : Int32))
    else (
      some (0 : Int32)))
  else (
    bd (f_X9_byteAt M ((M.1 55 25) + p1)) fun r4 =>
    if r4 = p2 then (
      some (1 : Int32))
    else (
      some (0 : Int32)))
set_option maxHeartbeats 4000000 in
set_option maxRecDepth 100000 in
theorem c_X9_isLetter (l : Launch) (E : wg_Ev) (ad : Nat → Nat) (S : wg_Sh) (hS : wg_SM S) (C : wg_C) (M : wg_M) (p1 : Int32) (p2 : Int32)  {r0 : Int32} (h : f_X9_isLetter M p1 p2 = some r0) : wg_Ci l yX9_isLetter cX9_isLetter 3 (some .boolean) 1 21 E ad S C M [.ref (ad 55), .int p1, .int p2] r0 C M := by
  refine wg_start (own := RX9) (by decide +kernel) rfl (Nat.le_of_ble_eq_true rfl) ?_
  intro p e s m below meth c X hr hnm
  refine wg_lv (lv' := [(0, .ref (ad 55)), (1, .int p1), (2, .int p2)]) rfl ?_
  unfold f_X9_isLetter at h
  refine wg_aload_n X 0 dX9_isLetter_0 rfl rfl ?_
  refine wg_getM X cl9 (SMi hS 55 9 rfl) 25 (by decide) dX9_isLetter_1 k_907 rfl ?_
  refine wg_iload_n X 1 dX9_isLetter_4 rfl rfl ?_
  refine wg_iadd X dX9_isLetter_5 ?_
  refine wg_aload_n X 0 dX9_isLetter_6 rfl rfl ?_
  refine wg_getM X cl9 (SMi hS 55 9 rfl) 23 (by decide) dX9_isLetter_7 k_905 rfl ?_
  refine wg_icmp_ge X 35 dX9_isLetter_10 (by decide) (fun c1 => ?_) (fun c1 => ?_)
  · have h := if_t c1 h
    refine wg_iload_n X 2 dX9_isLetter_35 rfl rfl ?_
    refine wg_if_ne X 43 dX9_isLetter_36 (by decide) (fun c2 => ?_) (fun c2 => ?_)
    · have h := if_f c2 h
      refine wg_iconst (v := 0) X dX9_isLetter_43 (by decide) ?_
      exact wg_zret X ⟨(sm_inj h), rfl, rfl⟩ hr (by decide) dX9_isLetter_44
    · have h := if_t c2 h
      refine wg_iconst (v := 1) X dX9_isLetter_39 (by decide) ?_
      refine wg_goto X 44 dX9_isLetter_40 (by decide) ?_
      exact wg_zret X ⟨(sm_inj h), rfl, rfl⟩ hr (by decide) dX9_isLetter_44
  · have h := if_f c1 h
    refine wg_aload_n X 0 dX9_isLetter_13 rfl rfl ?_
    refine wg_aload_n X 0 dX9_isLetter_14 rfl rfl ?_
    refine wg_getM X cl9 (SMi hS 55 9 rfl) 25 (by decide) dX9_isLetter_15 k_907 rfl ?_
    refine wg_iload_n X 1 dX9_isLetter_18 rfl rfl ?_
    refine wg_iadd X dX9_isLetter_19 ?_
    obtain ⟨r4, h3, h⟩ := bd_some h
    refine wg_callVi (As := [.int ((M.1 55 25) + p1)]) (rest := []) X (c_X9_byteAt l E ad S hS C M ((M.1 55 25) + p1)  h3) T_yX9_byteAt k_1087 cl9 (SMi hS 55 9 rfl) dX9_isLetter_20 rfl rfl (Nat.le_of_ble_eq_true rfl) ⟨Nat.le_of_ble_eq_true rfl, Nat.le_of_ble_eq_true rfl⟩ ⟨Nat.zero_le _, Nat.zero_le _⟩ ?_
    refine wg_iload_n X 2 dX9_isLetter_23 rfl rfl ?_
    refine wg_icmp_ne X 31 dX9_isLetter_24 (by decide) (fun c5 => ?_) (fun c5 => ?_)
    · have h := if_f c5 h
      refine wg_iconst (v := 0) X dX9_isLetter_31 (by decide) ?_
      refine wg_goto X 44 dX9_isLetter_32 (by decide) ?_
      exact wg_zret X ⟨(sm_inj h), rfl, rfl⟩ hr (by decide) dX9_isLetter_44
    · have h := if_t c5 h
      refine wg_iconst (v := 1) X dX9_isLetter_27 (by decide) ?_
      refine wg_goto X 44 dX9_isLetter_28 (by decide) ?_
      exact wg_zret X ⟨(sm_inj h), rfl, rfl⟩ hr (by decide) dX9_isLetter_44
-- WindowsGiveModel.isWord(IIIIIIII)Z (('c', 55), 'i', 'i', 'i', 'i', 'i', 'i', 'i', 'i')
def f_X9_isWord (M : wg_M) (p1 : Int32) (p2 : Int32) (p3 : Int32) (p4 : Int32) (p5 : Int32) (p6 : Int32) (p7 : Int32) (p8 : Int32) : Option Int32 :=
  if (M.1 55 28) = 0 then (
    if (M.1 55 24) = (1 : Int32) then (
      if ((M.1 55 25) + (8 : Int32)) < (M.1 55 23) then (
        some (0 : Int32))
      else (
        bd (f_X9_isLetter M (0 : Int32) p1) fun r5 =>
        if r5 = 0 then (
          some (0 : Int32))
        else (
          bd (f_X9_isLetter M (1 : Int32) p2) fun r8 =>
          if r8 = 0 then (
            some (0 : Int32))
          else (
            bd (f_X9_isLetter M (2 : Int32) p3) fun r11 =>
            if r11 = 0 then (
              some (0 : Int32))
            else (
              bd (f_X9_isLetter M (3 : Int32) p4) fun r14 =>
              if r14 = 0 then (
                some (0 : Int32))
              else (
                bd (f_X9_isLetter M (4 : Int32) p5) fun r17 =>
                if r17 = 0 then (
                  some (0 : Int32))
                else (
                  bd (f_X9_isLetter M (5 : Int32) p6) fun r20 =>
                  if r20 = 0 then (
                    some (0 : Int32))
                  else (
                    bd (f_X9_isLetter M (6 : Int32) p7) fun r23 =>
                    if r23 = 0 then (
                      some (0 : Int32))
                    else (
                      bd (f_X9_isLetter M (7 : Int32) p8) fun r26 =>
                      if r26 = 0 then (
                        some (0 : Int32))
                      else (
                        some (1 : Int32)))))))))))
    else (
      some (0 : Int32)))
  else (
    some (0 : Int32))
set_option maxHeartbeats 4000000 in
set_option maxRecDepth 100000 in
theorem c_X9_isWord (l : Launch) (E : wg_Ev) (ad : Nat → Nat) (S : wg_Sh) (hS : wg_SM S) (C : wg_C) (M : wg_M) (p1 : Int32) (p2 : Int32) (p3 : Int32) (p4 : Int32) (p5 : Int32) (p6 : Int32) (p7 : Int32) (p8 : Int32)  {r0 : Int32} (h : f_X9_isWord M p1 p2 p3 p4 p5 p6 p7 p8 = some r0) : wg_Ci l yX9_isWord cX9_isWord 9 (some .boolean) 2 43 E ad S C M [.ref (ad 55), .int p1, .int p2, .int p3, .int p4, .int p5, .int p6, .int p7, .int p8] r0 C M := by
  refine wg_start (own := RX9) (by decide +kernel) rfl (Nat.le_of_ble_eq_true rfl) ?_
  intro p e s m below meth c X hr hnm
  refine wg_lv (lv' := [(0, .ref (ad 55)), (1, .int p1), (2, .int p2), (3, .int p3), (4, .int p4), (5, .int p5), (6, .int p6), (7, .int p7), (8, .int p8)]) rfl ?_
  unfold f_X9_isWord at h
  refine wg_aload_n X 0 dX9_isWord_0 rfl rfl ?_
  refine wg_getM X cl9 (SMi hS 55 9 rfl) 28 (by decide) dX9_isWord_1 k_910 rfl ?_
  refine wg_if_ne X 112 dX9_isWord_4 (by decide) (fun c1 => ?_) (fun c1 => ?_)
  · have h := if_f c1 h
    refine wg_iconst (v := 0) X dX9_isWord_112 (by decide) ?_
    exact wg_zret X ⟨(sm_inj h), rfl, rfl⟩ hr (by decide) dX9_isWord_113
  · have h := if_t c1 h
    refine wg_aload_n X 0 dX9_isWord_7 rfl rfl ?_
    refine wg_getM X cl9 (SMi hS 55 9 rfl) 24 (by decide) dX9_isWord_8 k_906 rfl ?_
    refine wg_iconst (v := 1) X dX9_isWord_11 (by decide) ?_
    refine wg_icmp_ne X 112 dX9_isWord_12 (by decide) (fun c2 => ?_) (fun c2 => ?_)
    · have h := if_f c2 h
      refine wg_iconst (v := 0) X dX9_isWord_112 (by decide) ?_
      exact wg_zret X ⟨(sm_inj h), rfl, rfl⟩ hr (by decide) dX9_isWord_113
    · have h := if_t c2 h
      refine wg_aload_n X 0 dX9_isWord_15 rfl rfl ?_
      refine wg_getM X cl9 (SMi hS 55 9 rfl) 23 (by decide) dX9_isWord_16 k_905 rfl ?_
      refine wg_aload_n X 0 dX9_isWord_19 rfl rfl ?_
      refine wg_getM X cl9 (SMi hS 55 9 rfl) 25 (by decide) dX9_isWord_20 k_907 rfl ?_
      refine wg_bipush (v := 8) X dX9_isWord_23 (by decide) ?_
      refine wg_iadd X dX9_isWord_25 ?_
      refine wg_icmp_gt X 112 dX9_isWord_26 (by decide) (fun c3 => ?_) (fun c3 => ?_)
      · have h := if_t c3 h
        refine wg_iconst (v := 0) X dX9_isWord_112 (by decide) ?_
        exact wg_zret X ⟨(sm_inj h), rfl, rfl⟩ hr (by decide) dX9_isWord_113
      · have h := if_f c3 h
        refine wg_aload_n X 0 dX9_isWord_29 rfl rfl ?_
        refine wg_iconst (v := 0) X dX9_isWord_30 (by decide) ?_
        refine wg_iload_n X 1 dX9_isWord_31 rfl rfl ?_
        obtain ⟨r5, h4, h⟩ := bd_some h
        refine wg_callVi (As := [.int (0 : Int32), .int p1]) (rest := []) X (c_X9_isLetter l E ad S hS C M (0 : Int32) p1  h4) T_yX9_isLetter k_1100 cl9 (SMi hS 55 9 rfl) dX9_isWord_32 rfl rfl (Nat.le_of_ble_eq_true rfl) ⟨Nat.le_of_ble_eq_true rfl, Nat.le_of_ble_eq_true rfl⟩ ⟨Nat.zero_le _, Nat.zero_le _⟩ ?_
        refine wg_if_eq X 112 dX9_isWord_35 (by decide) (fun c6 => ?_) (fun c6 => ?_)
        · have h := if_t c6 h
          refine wg_iconst (v := 0) X dX9_isWord_112 (by decide) ?_
          exact wg_zret X ⟨(sm_inj h), rfl, rfl⟩ hr (by decide) dX9_isWord_113
        · have h := if_f c6 h
          refine wg_aload_n X 0 dX9_isWord_38 rfl rfl ?_
          refine wg_iconst (v := 1) X dX9_isWord_39 (by decide) ?_
          refine wg_iload_n X 2 dX9_isWord_40 rfl rfl ?_
          obtain ⟨r8, h7, h⟩ := bd_some h
          refine wg_callVi (As := [.int (1 : Int32), .int p2]) (rest := []) X (c_X9_isLetter l E ad S hS C M (1 : Int32) p2  h7) T_yX9_isLetter k_1100 cl9 (SMi hS 55 9 rfl) dX9_isWord_41 rfl rfl (Nat.le_of_ble_eq_true rfl) ⟨Nat.le_of_ble_eq_true rfl, Nat.le_of_ble_eq_true rfl⟩ ⟨Nat.zero_le _, Nat.zero_le _⟩ ?_
          refine wg_if_eq X 112 dX9_isWord_44 (by decide) (fun c9 => ?_) (fun c9 => ?_)
          · have h := if_t c9 h
            refine wg_iconst (v := 0) X dX9_isWord_112 (by decide) ?_
            exact wg_zret X ⟨(sm_inj h), rfl, rfl⟩ hr (by decide) dX9_isWord_113
          · have h := if_f c9 h
            refine wg_aload_n X 0 dX9_isWord_47 rfl rfl ?_
            refine wg_iconst (v := 2) X dX9_isWord_48 (by decide) ?_
            refine wg_iload_n X 3 dX9_isWord_49 rfl rfl ?_
            obtain ⟨r11, h10, h⟩ := bd_some h
            refine wg_callVi (As := [.int (2 : Int32), .int p3]) (rest := []) X (c_X9_isLetter l E ad S hS C M (2 : Int32) p3  h10) T_yX9_isLetter k_1100 cl9 (SMi hS 55 9 rfl) dX9_isWord_50 rfl rfl (Nat.le_of_ble_eq_true rfl) ⟨Nat.le_of_ble_eq_true rfl, Nat.le_of_ble_eq_true rfl⟩ ⟨Nat.zero_le _, Nat.zero_le _⟩ ?_
            refine wg_if_eq X 112 dX9_isWord_53 (by decide) (fun c12 => ?_) (fun c12 => ?_)
            · have h := if_t c12 h
              refine wg_iconst (v := 0) X dX9_isWord_112 (by decide) ?_
              exact wg_zret X ⟨(sm_inj h), rfl, rfl⟩ hr (by decide) dX9_isWord_113
            · have h := if_f c12 h
              refine wg_aload_n X 0 dX9_isWord_56 rfl rfl ?_
              refine wg_iconst (v := 3) X dX9_isWord_57 (by decide) ?_
              refine wg_iload X 4 dX9_isWord_58 rfl ?_
              obtain ⟨r14, h13, h⟩ := bd_some h
              refine wg_callVi (As := [.int (3 : Int32), .int p4]) (rest := []) X (c_X9_isLetter l E ad S hS C M (3 : Int32) p4  h13) T_yX9_isLetter k_1100 cl9 (SMi hS 55 9 rfl) dX9_isWord_60 rfl rfl (Nat.le_of_ble_eq_true rfl) ⟨Nat.le_of_ble_eq_true rfl, Nat.le_of_ble_eq_true rfl⟩ ⟨Nat.zero_le _, Nat.zero_le _⟩ ?_
              refine wg_if_eq X 112 dX9_isWord_63 (by decide) (fun c15 => ?_) (fun c15 => ?_)
              · have h := if_t c15 h
                refine wg_iconst (v := 0) X dX9_isWord_112 (by decide) ?_
                exact wg_zret X ⟨(sm_inj h), rfl, rfl⟩ hr (by decide) dX9_isWord_113
              · have h := if_f c15 h
                refine wg_aload_n X 0 dX9_isWord_66 rfl rfl ?_
                refine wg_iconst (v := 4) X dX9_isWord_67 (by decide) ?_
                refine wg_iload X 5 dX9_isWord_68 rfl ?_
                obtain ⟨r17, h16, h⟩ := bd_some h
                refine wg_callVi (As := [.int (4 : Int32), .int p5]) (rest := []) X (c_X9_isLetter l E ad S hS C M (4 : Int32) p5  h16) T_yX9_isLetter k_1100 cl9 (SMi hS 55 9 rfl) dX9_isWord_70 rfl rfl (Nat.le_of_ble_eq_true rfl) ⟨Nat.le_of_ble_eq_true rfl, Nat.le_of_ble_eq_true rfl⟩ ⟨Nat.zero_le _, Nat.zero_le _⟩ ?_
                refine wg_if_eq X 112 dX9_isWord_73 (by decide) (fun c18 => ?_) (fun c18 => ?_)
                · have h := if_t c18 h
                  refine wg_iconst (v := 0) X dX9_isWord_112 (by decide) ?_
                  exact wg_zret X ⟨(sm_inj h), rfl, rfl⟩ hr (by decide) dX9_isWord_113
                · have h := if_f c18 h
                  refine wg_aload_n X 0 dX9_isWord_76 rfl rfl ?_
                  refine wg_iconst (v := 5) X dX9_isWord_77 (by decide) ?_
                  refine wg_iload X 6 dX9_isWord_78 rfl ?_
                  obtain ⟨r20, h19, h⟩ := bd_some h
                  refine wg_callVi (As := [.int (5 : Int32), .int p6]) (rest := []) X (c_X9_isLetter l E ad S hS C M (5 : Int32) p6  h19) T_yX9_isLetter k_1100 cl9 (SMi hS 55 9 rfl) dX9_isWord_80 rfl rfl (Nat.le_of_ble_eq_true rfl) ⟨Nat.le_of_ble_eq_true rfl, Nat.le_of_ble_eq_true rfl⟩ ⟨Nat.zero_le _, Nat.zero_le _⟩ ?_
                  refine wg_if_eq X 112 dX9_isWord_83 (by decide) (fun c21 => ?_) (fun c21 => ?_)
                  · have h := if_t c21 h
                    refine wg_iconst (v := 0) X dX9_isWord_112 (by decide) ?_
                    exact wg_zret X ⟨(sm_inj h), rfl, rfl⟩ hr (by decide) dX9_isWord_113
                  · have h := if_f c21 h
                    refine wg_aload_n X 0 dX9_isWord_86 rfl rfl ?_
                    refine wg_bipush (v := 6) X dX9_isWord_87 (by decide) ?_
                    refine wg_iload X 7 dX9_isWord_89 rfl ?_
                    obtain ⟨r23, h22, h⟩ := bd_some h
                    refine wg_callVi (As := [.int (6 : Int32), .int p7]) (rest := []) X (c_X9_isLetter l E ad S hS C M (6 : Int32) p7  h22) T_yX9_isLetter k_1100 cl9 (SMi hS 55 9 rfl) dX9_isWord_91 rfl rfl (Nat.le_of_ble_eq_true rfl) ⟨Nat.le_of_ble_eq_true rfl, Nat.le_of_ble_eq_true rfl⟩ ⟨Nat.zero_le _, Nat.zero_le _⟩ ?_
                    refine wg_if_eq X 112 dX9_isWord_94 (by decide) (fun c24 => ?_) (fun c24 => ?_)
                    · have h := if_t c24 h
                      refine wg_iconst (v := 0) X dX9_isWord_112 (by decide) ?_
                      exact wg_zret X ⟨(sm_inj h), rfl, rfl⟩ hr (by decide) dX9_isWord_113
                    · have h := if_f c24 h
                      refine wg_aload_n X 0 dX9_isWord_97 rfl rfl ?_
                      refine wg_bipush (v := 7) X dX9_isWord_98 (by decide) ?_
                      refine wg_iload X 8 dX9_isWord_100 rfl ?_
                      obtain ⟨r26, h25, h⟩ := bd_some h
                      refine wg_callVi (As := [.int (7 : Int32), .int p8]) (rest := []) X (c_X9_isLetter l E ad S hS C M (7 : Int32) p8  h25) T_yX9_isLetter k_1100 cl9 (SMi hS 55 9 rfl) dX9_isWord_102 rfl rfl (Nat.le_of_ble_eq_true rfl) ⟨Nat.le_of_ble_eq_true rfl, Nat.le_of_ble_eq_true rfl⟩ ⟨Nat.zero_le _, Nat.zero_le _⟩ ?_
                      refine wg_if_eq X 112 dX9_isWord_105 (by decide) (fun c27 => ?_) (fun c27 => ?_)
                      · have h := if_t c27 h
                        refine wg_iconst (v := 0) X dX9_isWord_112 (by decide) ?_
                        exact wg_zret X ⟨(sm_inj h), rfl, rfl⟩ hr (by decide) dX9_isWord_113
                      · have h := if_f c27 h
                        refine wg_iconst (v := 1) X dX9_isWord_108 (by decide) ?_
                        refine wg_goto X 113 dX9_isWord_109 (by decide) ?_
                        exact wg_zret X ⟨(sm_inj h), rfl, rfl⟩ hr (by decide) dX9_isWord_113
-- WindowsGiveModel.isSign(I)Z (('c', 55), 'i')
def f_X9_isSign (M : wg_M) (p1 : Int32) : Option Int32 :=
  if (M.1 55 28) = 0 then (
    if (M.1 55 24) = (3 : Int32) then (
      if (lg_cmp (M.2 55) p1.toInt64) = 0 then (
        some (1 : Int32))
      else (
        some (0 : Int32)))
    else (
      some (0 : Int32)))
  else (
    some (0 : Int32))
set_option maxHeartbeats 4000000 in
set_option maxRecDepth 100000 in
theorem c_X9_isSign (l : Launch) (E : wg_Ev) (ad : Nat → Nat) (S : wg_Sh) (hS : wg_SM S) (C : wg_C) (M : wg_M) (p1 : Int32)  {r0 : Int32} (h : f_X9_isSign M p1 = some r0) : wg_Ci l yX9_isSign cX9_isSign 2 (some .boolean) 0 0 E ad S C M [.ref (ad 55), .int p1] r0 C M := by
  refine wg_start (own := RX9) (by decide +kernel) rfl (Nat.le_of_ble_eq_true rfl) ?_
  intro p e s m below meth c X hr hnm
  refine wg_lv (lv' := [(0, .ref (ad 55)), (1, .int p1)]) rfl ?_
  unfold f_X9_isSign at h
  refine wg_aload_n X 0 dX9_isSign_0 rfl rfl ?_
  refine wg_getM X cl9 (SMi hS 55 9 rfl) 28 (by decide) dX9_isSign_1 k_910 rfl ?_
  refine wg_if_ne X 29 dX9_isSign_4 (by decide) (fun c1 => ?_) (fun c1 => ?_)
  · have h := if_f c1 h
    refine wg_iconst (v := 0) X dX9_isSign_29 (by decide) ?_
    exact wg_zret X ⟨(sm_inj h), rfl, rfl⟩ hr (by decide) dX9_isSign_30
  · have h := if_t c1 h
    refine wg_aload_n X 0 dX9_isSign_7 rfl rfl ?_
    refine wg_getM X cl9 (SMi hS 55 9 rfl) 24 (by decide) dX9_isSign_8 k_906 rfl ?_
    refine wg_iconst (v := 3) X dX9_isSign_11 (by decide) ?_
    refine wg_icmp_ne X 29 dX9_isSign_12 (by decide) (fun c2 => ?_) (fun c2 => ?_)
    · have h := if_f c2 h
      refine wg_iconst (v := 0) X dX9_isSign_29 (by decide) ?_
      exact wg_zret X ⟨(sm_inj h), rfl, rfl⟩ hr (by decide) dX9_isSign_30
    · have h := if_t c2 h
      refine wg_aload_n X 0 dX9_isSign_15 rfl rfl ?_
      refine wg_getJ X cl9 (SMi hS 55 9 rfl) 26 (by decide) dX9_isSign_16 k_908 rfl ?_
      refine wg_iload_n X 1 dX9_isSign_19 rfl rfl ?_
      refine wg_i2l X dX9_isSign_20 ?_
      refine wg_lcmp X dX9_isSign_21 ?_
      refine wg_if_ne X 29 dX9_isSign_22 (by decide) (fun c3 => ?_) (fun c3 => ?_)
      · have h := if_f c3 h
        refine wg_iconst (v := 0) X dX9_isSign_29 (by decide) ?_
        exact wg_zret X ⟨(sm_inj h), rfl, rfl⟩ hr (by decide) dX9_isSign_30
      · have h := if_t c3 h
        refine wg_iconst (v := 1) X dX9_isSign_25 (by decide) ?_
        refine wg_goto X 30 dX9_isSign_26 (by decide) ?_
        exact wg_zret X ⟨(sm_inj h), rfl, rfl⟩ hr (by decide) dX9_isSign_30
-- WindowsGiveModel.opens()Z (('c', 55),)
def f_X9_opens (N : Nat) (M : wg_M)  : Option (Int32 × wg_M) :=
  if (M.1 55 27) = (5 : Int32) then (
    bd (f_X9_fail M ) fun M7 =>
    some ((0 : Int32), M7))
  else (
    lt_ (wg_sM M 55 27 ((M.1 55 27) + (1 : Int32))) fun M2 =>
    bd (f_X9_next N M2 ) fun M5 =>
    some ((1 : Int32), M5))
set_option maxHeartbeats 4000000 in
set_option maxRecDepth 100000 in
theorem c_X9_opens (l : Launch) (E : wg_Ev) (ad : Nat → Nat) (S : wg_Sh) (hS : wg_SM S) (N : Nat) (C : wg_C) (M : wg_M)   {r0 : Int32} {D0 : wg_M} (h : f_X9_opens N M  = some (r0, D0)) : wg_Ci l yX9_opens cX9_opens 1 (some .boolean) 2 47 E ad S C M [.ref (ad 55)] r0 C D0 := by
  refine wg_start (own := RX9) (by decide +kernel) rfl (Nat.le_of_ble_eq_true rfl) ?_
  intro p e s m below meth c X hr hnm
  refine wg_lv (lv' := [(0, .ref (ad 55))]) rfl ?_
  unfold f_X9_opens at h
  refine wg_aload_n X 0 dX9_opens_0 rfl rfl ?_
  refine wg_getM X cl9 (SMi hS 55 9 rfl) 27 (by decide) dX9_opens_1 k_909 rfl ?_
  refine wg_iconst (v := 5) X dX9_opens_4 (by decide) ?_
  refine wg_icmp_ne X 14 dX9_opens_5 (by decide) (fun c1 => ?_) (fun c1 => ?_)
  · have h := if_f c1 h
    refine wg_aload_n X 0 dX9_opens_14 rfl rfl ?_
    refine wg_dup X dX9_opens_15 rfl ?_
    refine wg_getM X cl9 (SMi hS 55 9 rfl) 27 (by decide) dX9_opens_16 k_909 rfl ?_
    refine wg_iconst (v := 1) X dX9_opens_19 (by decide) ?_
    refine wg_iadd X dX9_opens_20 ?_
    obtain ⟨M2, e3, h⟩ := lt_some h
    refine wg_putMe X cl9 (SMi hS 55 9 rfl) 27 (by decide) dX9_opens_21 k_909 rfl rfl rfl rfl e3 ?_
    refine wg_aload_n X 0 dX9_opens_24 rfl rfl ?_
    obtain ⟨M5, h4, h⟩ := bd_some h
    refine wg_callVv (As := []) (rest := []) X (c_X9_next l E ad S hS N C M2   h4) T_yX9_next k_1083 cl9 (SMi hS 55 9 rfl) dX9_opens_25 rfl rfl (Nat.le_of_ble_eq_true rfl) ⟨Nat.le_of_ble_eq_true rfl, Nat.le_of_ble_eq_true rfl⟩ ⟨Nat.zero_le _, Nat.zero_le _⟩ ?_
    refine wg_iconst (v := 1) X dX9_opens_28 (by decide) ?_
    exact wg_zret X ⟨(Prod.mk.inj (sm_inj h)).1, rfl, (Prod.mk.inj (sm_inj h)).2⟩ hr (by decide) dX9_opens_29
  · have h := if_t c1 h
    refine wg_aload_n X 0 dX9_opens_8 rfl rfl ?_
    obtain ⟨M7, h6, h⟩ := bd_some h
    refine wg_callVv (As := []) (rest := []) X (c_X9_fail l E ad S hS C M   h6) T_yX9_fail k_1108 cl9 (SMi hS 55 9 rfl) dX9_opens_9 rfl rfl (Nat.le_of_ble_eq_true rfl) ⟨Nat.le_of_ble_eq_true rfl, Nat.le_of_ble_eq_true rfl⟩ ⟨Nat.zero_le _, Nat.zero_le _⟩ ?_
    refine wg_iconst (v := 0) X dX9_opens_12 (by decide) ?_
    exact wg_zret X ⟨(Prod.mk.inj (sm_inj h)).1, rfl, (Prod.mk.inj (sm_inj h)).2⟩ hr (by decide) dX9_opens_13
-- WindowsGiveModel.name()I (('c', 55),)
def f_X9_name (M : wg_M)  : Option (Int32 × wg_M) :=
  bd (f_X9_isWord M (100 : Int32) (97 : Int32) (121 : Int32) (0 : Int32) (0 : Int32) (0 : Int32) (0 : Int32) (0 : Int32)) fun r2 =>
  if r2 = 0 then (
    bd (f_X9_isWord M (115 : Int32) (104 : Int32) (105 : Int32) (102 : Int32) (116 : Int32) (0 : Int32) (0 : Int32) (0 : Int32)) fun r5 =>
    if r5 = 0 then (
      bd (f_X9_isWord M (110 : Int32) (117 : Int32) (109 : Int32) (98 : Int32) (101 : Int32) (114 : Int32) (0 : Int32) (0 : Int32)) fun r8 =>
      if r8 = 0 then (
        bd (f_X9_isWord M (119 : Int32) (101 : Int32) (97 : Int32) (116 : Int32) (104 : Int32) (101 : Int32) (114 : Int32) (0 : Int32)) fun r11 =>
        if r11 = 0 then (
          bd (f_X9_isWord M (119 : Int32) (105 : Int32) (110 : Int32) (100 : Int32) (111 : Int32) (119 : Int32) (0 : Int32) (0 : Int32)) fun r14 =>
          if r14 = 0 then (
            bd (f_X9_isWord M (114 : Int32) (111 : Int32) (111 : Int32) (109 : Int32) (0 : Int32) (0 : Int32) (0 : Int32) (0 : Int32)) fun r17 =>
            if r17 = 0 then (
              bd (f_X9_fail M ) fun M20 =>
              some ((0 : Int32), M20))
            else (
              some ((M.1 55 20), M)))
          else (
            some ((M.1 55 19), M)))
        else (
          some ((M.1 55 18), M)))
      else (
        some ((M.1 55 17), M)))
    else (
      some ((M.1 55 16), M)))
  else (
    some ((M.1 55 15), M))
set_option maxHeartbeats 4000000 in
set_option maxRecDepth 100000 in
theorem c_X9_name (l : Launch) (E : wg_Ev) (ad : Nat → Nat) (S : wg_Sh) (hS : wg_SM S) (C : wg_C) (M : wg_M)   {r0 : Int32} {D0 : wg_M} (h : f_X9_name M  = some (r0, D0)) : wg_Ci l yX9_name cX9_name 1 (some .int) 3 71 E ad S C M [.ref (ad 55)] r0 C D0 := by
  refine wg_start (own := RX9) (by decide +kernel) rfl (Nat.le_of_ble_eq_true rfl) ?_
  intro p e s m below meth c X hr hnm
  refine wg_lv (lv' := [(0, .ref (ad 55))]) rfl ?_
  unfold f_X9_name at h
  refine wg_aload_n X 0 dX9_name_0 rfl rfl ?_
  refine wg_bipush (v := 100) X dX9_name_1 (by decide) ?_
  refine wg_bipush (v := 97) X dX9_name_3 (by decide) ?_
  refine wg_bipush (v := 121) X dX9_name_5 (by decide) ?_
  refine wg_iconst (v := 0) X dX9_name_7 (by decide) ?_
  refine wg_iconst (v := 0) X dX9_name_8 (by decide) ?_
  refine wg_iconst (v := 0) X dX9_name_9 (by decide) ?_
  refine wg_iconst (v := 0) X dX9_name_10 (by decide) ?_
  refine wg_iconst (v := 0) X dX9_name_11 (by decide) ?_
  obtain ⟨r2, h1, h⟩ := bd_some h
  refine wg_callVi (As := [.int (100 : Int32), .int (97 : Int32), .int (121 : Int32), .int (0 : Int32), .int (0 : Int32), .int (0 : Int32), .int (0 : Int32), .int (0 : Int32)]) (rest := []) X (c_X9_isWord l E ad S hS C M (100 : Int32) (97 : Int32) (121 : Int32) (0 : Int32) (0 : Int32) (0 : Int32) (0 : Int32) (0 : Int32)  h1) T_yX9_isWord k_1096 cl9 (SMi hS 55 9 rfl) dX9_name_12 rfl rfl (Nat.le_of_ble_eq_true rfl) ⟨Nat.le_of_ble_eq_true rfl, Nat.le_of_ble_eq_true rfl⟩ ⟨Nat.zero_le _, Nat.zero_le _⟩ ?_
  refine wg_if_eq X 23 dX9_name_15 (by decide) (fun c3 => ?_) (fun c3 => ?_)
  · have h := if_t c3 h
    refine wg_aload_n X 0 dX9_name_23 rfl rfl ?_
    refine wg_bipush (v := 115) X dX9_name_24 (by decide) ?_
    refine wg_bipush (v := 104) X dX9_name_26 (by decide) ?_
    refine wg_bipush (v := 105) X dX9_name_28 (by decide) ?_
    refine wg_bipush (v := 102) X dX9_name_30 (by decide) ?_
    refine wg_bipush (v := 116) X dX9_name_32 (by decide) ?_
    refine wg_iconst (v := 0) X dX9_name_34 (by decide) ?_
    refine wg_iconst (v := 0) X dX9_name_35 (by decide) ?_
    refine wg_iconst (v := 0) X dX9_name_36 (by decide) ?_
    obtain ⟨r5, h4, h⟩ := bd_some h
    refine wg_callVi (As := [.int (115 : Int32), .int (104 : Int32), .int (105 : Int32), .int (102 : Int32), .int (116 : Int32), .int (0 : Int32), .int (0 : Int32), .int (0 : Int32)]) (rest := []) X (c_X9_isWord l E ad S hS C M (115 : Int32) (104 : Int32) (105 : Int32) (102 : Int32) (116 : Int32) (0 : Int32) (0 : Int32) (0 : Int32)  h4) T_yX9_isWord k_1096 cl9 (SMi hS 55 9 rfl) dX9_name_37 rfl rfl (Nat.le_of_ble_eq_true rfl) ⟨Nat.le_of_ble_eq_true rfl, Nat.le_of_ble_eq_true rfl⟩ ⟨Nat.zero_le _, Nat.zero_le _⟩ ?_
    refine wg_if_eq X 48 dX9_name_40 (by decide) (fun c6 => ?_) (fun c6 => ?_)
    · have h := if_t c6 h
      refine wg_aload_n X 0 dX9_name_48 rfl rfl ?_
      refine wg_bipush (v := 110) X dX9_name_49 (by decide) ?_
      refine wg_bipush (v := 117) X dX9_name_51 (by decide) ?_
      refine wg_bipush (v := 109) X dX9_name_53 (by decide) ?_
      refine wg_bipush (v := 98) X dX9_name_55 (by decide) ?_
      refine wg_bipush (v := 101) X dX9_name_57 (by decide) ?_
      refine wg_bipush (v := 114) X dX9_name_59 (by decide) ?_
      refine wg_iconst (v := 0) X dX9_name_61 (by decide) ?_
      refine wg_iconst (v := 0) X dX9_name_62 (by decide) ?_
      obtain ⟨r8, h7, h⟩ := bd_some h
      refine wg_callVi (As := [.int (110 : Int32), .int (117 : Int32), .int (109 : Int32), .int (98 : Int32), .int (101 : Int32), .int (114 : Int32), .int (0 : Int32), .int (0 : Int32)]) (rest := []) X (c_X9_isWord l E ad S hS C M (110 : Int32) (117 : Int32) (109 : Int32) (98 : Int32) (101 : Int32) (114 : Int32) (0 : Int32) (0 : Int32)  h7) T_yX9_isWord k_1096 cl9 (SMi hS 55 9 rfl) dX9_name_63 rfl rfl (Nat.le_of_ble_eq_true rfl) ⟨Nat.le_of_ble_eq_true rfl, Nat.le_of_ble_eq_true rfl⟩ ⟨Nat.zero_le _, Nat.zero_le _⟩ ?_
      refine wg_if_eq X 74 dX9_name_66 (by decide) (fun c9 => ?_) (fun c9 => ?_)
      · have h := if_t c9 h
        refine wg_aload_n X 0 dX9_name_74 rfl rfl ?_
        refine wg_bipush (v := 119) X dX9_name_75 (by decide) ?_
        refine wg_bipush (v := 101) X dX9_name_77 (by decide) ?_
        refine wg_bipush (v := 97) X dX9_name_79 (by decide) ?_
        refine wg_bipush (v := 116) X dX9_name_81 (by decide) ?_
        refine wg_bipush (v := 104) X dX9_name_83 (by decide) ?_
        refine wg_bipush (v := 101) X dX9_name_85 (by decide) ?_
        refine wg_bipush (v := 114) X dX9_name_87 (by decide) ?_
        refine wg_iconst (v := 0) X dX9_name_89 (by decide) ?_
        obtain ⟨r11, h10, h⟩ := bd_some h
        refine wg_callVi (As := [.int (119 : Int32), .int (101 : Int32), .int (97 : Int32), .int (116 : Int32), .int (104 : Int32), .int (101 : Int32), .int (114 : Int32), .int (0 : Int32)]) (rest := []) X (c_X9_isWord l E ad S hS C M (119 : Int32) (101 : Int32) (97 : Int32) (116 : Int32) (104 : Int32) (101 : Int32) (114 : Int32) (0 : Int32)  h10) T_yX9_isWord k_1096 cl9 (SMi hS 55 9 rfl) dX9_name_90 rfl rfl (Nat.le_of_ble_eq_true rfl) ⟨Nat.le_of_ble_eq_true rfl, Nat.le_of_ble_eq_true rfl⟩ ⟨Nat.zero_le _, Nat.zero_le _⟩ ?_
        refine wg_if_eq X 101 dX9_name_93 (by decide) (fun c12 => ?_) (fun c12 => ?_)
        · have h := if_t c12 h
          refine wg_aload_n X 0 dX9_name_101 rfl rfl ?_
          refine wg_bipush (v := 119) X dX9_name_102 (by decide) ?_
          refine wg_bipush (v := 105) X dX9_name_104 (by decide) ?_
          refine wg_bipush (v := 110) X dX9_name_106 (by decide) ?_
          refine wg_bipush (v := 100) X dX9_name_108 (by decide) ?_
          refine wg_bipush (v := 111) X dX9_name_110 (by decide) ?_
          refine wg_bipush (v := 119) X dX9_name_112 (by decide) ?_
          refine wg_iconst (v := 0) X dX9_name_114 (by decide) ?_
          refine wg_iconst (v := 0) X dX9_name_115 (by decide) ?_
          obtain ⟨r14, h13, h⟩ := bd_some h
          refine wg_callVi (As := [.int (119 : Int32), .int (105 : Int32), .int (110 : Int32), .int (100 : Int32), .int (111 : Int32), .int (119 : Int32), .int (0 : Int32), .int (0 : Int32)]) (rest := []) X (c_X9_isWord l E ad S hS C M (119 : Int32) (105 : Int32) (110 : Int32) (100 : Int32) (111 : Int32) (119 : Int32) (0 : Int32) (0 : Int32)  h13) T_yX9_isWord k_1096 cl9 (SMi hS 55 9 rfl) dX9_name_116 rfl rfl (Nat.le_of_ble_eq_true rfl) ⟨Nat.le_of_ble_eq_true rfl, Nat.le_of_ble_eq_true rfl⟩ ⟨Nat.zero_le _, Nat.zero_le _⟩ ?_
          refine wg_if_eq X 127 dX9_name_119 (by decide) (fun c15 => ?_) (fun c15 => ?_)
          · have h := if_t c15 h
            refine wg_aload_n X 0 dX9_name_127 rfl rfl ?_
            refine wg_bipush (v := 114) X dX9_name_128 (by decide) ?_
            refine wg_bipush (v := 111) X dX9_name_130 (by decide) ?_
            refine wg_bipush (v := 111) X dX9_name_132 (by decide) ?_
            refine wg_bipush (v := 109) X dX9_name_134 (by decide) ?_
            refine wg_iconst (v := 0) X dX9_name_136 (by decide) ?_
            refine wg_iconst (v := 0) X dX9_name_137 (by decide) ?_
            refine wg_iconst (v := 0) X dX9_name_138 (by decide) ?_
            refine wg_iconst (v := 0) X dX9_name_139 (by decide) ?_
            obtain ⟨r17, h16, h⟩ := bd_some h
            refine wg_callVi (As := [.int (114 : Int32), .int (111 : Int32), .int (111 : Int32), .int (109 : Int32), .int (0 : Int32), .int (0 : Int32), .int (0 : Int32), .int (0 : Int32)]) (rest := []) X (c_X9_isWord l E ad S hS C M (114 : Int32) (111 : Int32) (111 : Int32) (109 : Int32) (0 : Int32) (0 : Int32) (0 : Int32) (0 : Int32)  h16) T_yX9_isWord k_1096 cl9 (SMi hS 55 9 rfl) dX9_name_140 rfl rfl (Nat.le_of_ble_eq_true rfl) ⟨Nat.le_of_ble_eq_true rfl, Nat.le_of_ble_eq_true rfl⟩ ⟨Nat.zero_le _, Nat.zero_le _⟩ ?_
            refine wg_if_eq X 151 dX9_name_143 (by decide) (fun c18 => ?_) (fun c18 => ?_)
            · have h := if_t c18 h
              refine wg_aload_n X 0 dX9_name_151 rfl rfl ?_
              obtain ⟨M20, h19, h⟩ := bd_some h
              refine wg_callVv (As := []) (rest := []) X (c_X9_fail l E ad S hS C M   h19) T_yX9_fail k_1108 cl9 (SMi hS 55 9 rfl) dX9_name_152 rfl rfl (Nat.le_of_ble_eq_true rfl) ⟨Nat.le_of_ble_eq_true rfl, Nat.le_of_ble_eq_true rfl⟩ ⟨Nat.zero_le _, Nat.zero_le _⟩ ?_
              refine wg_iconst (v := 0) X dX9_name_155 (by decide) ?_
              exact wg_iret X ⟨(Prod.mk.inj (sm_inj h)).1, rfl, (Prod.mk.inj (sm_inj h)).2⟩ hr dX9_name_156
            · have h := if_f c18 h
              refine wg_aload_n X 0 dX9_name_146 rfl rfl ?_
              refine wg_getM X cl9 (SMi hS 55 9 rfl) 20 (by decide) dX9_name_147 k_902 rfl ?_
              exact wg_iret X ⟨(Prod.mk.inj (sm_inj h)).1, rfl, (Prod.mk.inj (sm_inj h)).2⟩ hr dX9_name_150
          · have h := if_f c15 h
            refine wg_aload_n X 0 dX9_name_122 rfl rfl ?_
            refine wg_getM X cl9 (SMi hS 55 9 rfl) 19 (by decide) dX9_name_123 k_901 rfl ?_
            exact wg_iret X ⟨(Prod.mk.inj (sm_inj h)).1, rfl, (Prod.mk.inj (sm_inj h)).2⟩ hr dX9_name_126
        · have h := if_f c12 h
          refine wg_aload_n X 0 dX9_name_96 rfl rfl ?_
          refine wg_getM X cl9 (SMi hS 55 9 rfl) 18 (by decide) dX9_name_97 k_900 rfl ?_
          exact wg_iret X ⟨(Prod.mk.inj (sm_inj h)).1, rfl, (Prod.mk.inj (sm_inj h)).2⟩ hr dX9_name_100
      · have h := if_f c9 h
        refine wg_aload_n X 0 dX9_name_69 rfl rfl ?_
        refine wg_getM X cl9 (SMi hS 55 9 rfl) 17 (by decide) dX9_name_70 k_899 rfl ?_
        exact wg_iret X ⟨(Prod.mk.inj (sm_inj h)).1, rfl, (Prod.mk.inj (sm_inj h)).2⟩ hr dX9_name_73
    · have h := if_f c6 h
      refine wg_aload_n X 0 dX9_name_43 rfl rfl ?_
      refine wg_getM X cl9 (SMi hS 55 9 rfl) 16 (by decide) dX9_name_44 k_898 rfl ?_
      exact wg_iret X ⟨(Prod.mk.inj (sm_inj h)).1, rfl, (Prod.mk.inj (sm_inj h)).2⟩ hr dX9_name_47
  · have h := if_f c3 h
    refine wg_aload_n X 0 dX9_name_18 rfl rfl ?_
    refine wg_getM X cl9 (SMi hS 55 9 rfl) 15 (by decide) dX9_name_19 k_897 rfl ?_
    exact wg_iret X ⟨(Prod.mk.inj (sm_inj h)).1, rfl, (Prod.mk.inj (sm_inj h)).2⟩ hr dX9_name_22
def R_X9g (l : Launch) (E : wg_Ev) (ad : Nat → Nat) (S : wg_Sh) (C : wg_C) (d k : Nat) (D : wg_M) (r0 : Int32) (D0 : wg_M) : Prop := match k with
  | 0 => wg_Ci l yX9_atom cX9_atom 2 (some .int) (d + 8) (40 * d + 300) E ad S C D [.ref (ad 55)] r0 C D0
  | 1 => wg_Ci l yX9_term cX9_term 2 (some .int) (d + 8) (40 * d + 300) E ad S C D [.ref (ad 55)] r0 C D0
  | 2 => wg_Ci l yX9_added cX9_added 4 (some .int) (d + 8) (40 * d + 300) E ad S C D [.ref (ad 55)] r0 C D0
  | 3 => wg_Ci l yX9_not cX9_not 4 (some .int) (d + 8) (40 * d + 300) E ad S C D [.ref (ad 55)] r0 C D0
  | 4 => wg_Ci l yX9_both cX9_both 3 (some .int) (d + 8) (40 * d + 300) E ad S C D [.ref (ad 55)] r0 C D0
  | 5 => wg_Ci l yX9_either cX9_either 3 (some .int) (d + 8) (40 * d + 300) E ad S C D [.ref (ad 55)] r0 C D0
  | _ => True
-- WindowsGiveModel.atom()I (('c', 55),)
def f_X9_atom_j123 (N : Nat) (rc : Nat → wg_M → Option (Int32 × wg_M)) (M : wg_M)  (x1 : Int32) : Option (Int32 × wg_M) :=
  if (M.1 55 28) = 0 then (
    if (M.1 55 24) = (1 : Int32) then (
      bd2 (f_X9_name M ) fun r15 M16 =>
      if (M16.1 55 28) = 0 then (
        bd (f_X9_next N M16 ) fun M19 =>
        some (r15, M19))
      else (
        some (r15, M16)))
    else (
      bd (f_X9_fail M ) fun M13 =>
      some (x1, M13)))
  else (
    bd (f_X9_fail M ) fun M10 =>
    some (x1, M10))
def f_X9_atom_j71 (N : Nat) (rc : Nat → wg_M → Option (Int32 × wg_M)) (M : wg_M)  (x1 : Int32) : Option (Int32 × wg_M) :=
  lt_ (wg_sM M 55 27 ((M.1 55 27) - (1 : Int32))) fun M35 =>
  if (M35.1 55 28) = 0 then (
    bd (f_X9_next N M35 ) fun M39 =>
    some (x1, M39))
  else (
    some (x1, M35))
def f_X9_atom (N : Nat) (rc : Nat → wg_M → Option (Int32 × wg_M)) (M : wg_M)  : Option (Int32 × wg_M) :=
  bd (f_X9_isSign M (45 : Int32)) fun r2 =>
  if r2 = 0 then (
    bd (f_X9_isSign M (40 : Int32)) fun r5 =>
    if r5 = 0 then (
      if (M.1 55 28) = 0 then (
        if (M.1 55 24) = (2 : Int32) then (
          lt_ ((M.2 55).toInt32) fun v21 =>
          bd (f_X9_next N M ) fun M24 =>
          some (v21, M24))
        else (
          f_X9_atom_j123 N rc M  (0 : Int32)))
      else (
        f_X9_atom_j123 N rc M  (0 : Int32)))
    else (
      bd2 (f_X9_opens N M ) fun r26 M27 =>
      if r26 = 0 then (
        some ((0 : Int32), M27))
      else (
        bd2 (rc 5 M27 ) fun r30 M31 =>
        bd (f_X9_isSign M31 (41 : Int32)) fun r33 =>
        if r33 = 0 then (
          bd (f_X9_fail M31 ) fun M41 =>
          f_X9_atom_j71 N rc M41  r30)
        else (
          f_X9_atom_j71 N rc M31  r30))))
  else (
    bd2 (f_X9_opens N M ) fun r43 M44 =>
    if r43 = 0 then (
      some ((0 : Int32), M44))
    else (
      bd2 (rc 0 M44 ) fun r47 M48 =>
      lt_ (-r47) fun v49 =>
      lt_ (wg_sM M48 55 27 ((M48.1 55 27) - (1 : Int32))) fun M51 =>
      some (v49, M51)))
abbrev G_X9_atom (d : Nat) (p : Program) (l : Launch) (e : Env) (s : State) (m : MethodId) (args : Array Value) (below : List Frame) (meth : Method) (c : Code) (E : wg_Ev) (ad : Nat → Nat) (S : wg_Sh) (r0 : Int32) (C0 : wg_C) (M0 : wg_M) (pc : Nat) (C : wg_C) (M : wg_M) (lv : List (Nat × Value)) (st : List Value) : Prop := wg_G p l e (wg_Rm (d + 9) (40 * (d + 1) + 300)) s m args below meth c (MQ below (wg_Qi E ad S r0 C0 M0) args s 0 0 (wg_A E)) 2 E ad S 0 0 pc C M lv st
set_option maxHeartbeats 4000000 in
set_option maxRecDepth 100000 in
theorem J_X9_atom_j123 {p : Program} {l : Launch} {e : Env} {s : State} {m : MethodId} {args : Array Value} {below : List Frame} {meth : Method} {c : Code} {E : wg_Ev} {ad : Nat → Nat} {S : wg_Sh} (X : wg_X p s m args meth c cX9_atom 2 RX9 E) (hr : meth.sig.returnType = (some .int)) (hS : wg_SM S) (r0 : Int32) (D0 : wg_M) (C : wg_C) (N : Nat) (d : Nat) (rc : Nat → wg_M → Option (Int32 × wg_M)) (hrc : ∀ (k : Nat) (D : wg_M) (r0 : Int32) (D0 : wg_M), rc k D  = some (r0, D0) → R_X9g l E ad S C d k D  r0 D0)  (M : wg_M)  (x1 : Int32)   (h : f_X9_atom_j123 N rc M  x1 = some (r0, D0)) : G_X9_atom d p l e s m args below meth c E ad S r0 C D0 123 C M [(0, .ref (ad 55)), (1, .int x1)] [] := by
  unfold f_X9_atom_j123 at h
  refine wg_aload_n X 0 dX9_atom_123 rfl rfl ?_
  refine wg_getM X cl9 (SMi hS 55 9 rfl) 28 (by decide) dX9_atom_124 k_910 rfl ?_
  refine wg_if_ne X 157 dX9_atom_127 (by decide) (fun c8 => ?_) (fun c8 => ?_)
  · have h := if_f c8 h
    refine wg_aload_n X 0 dX9_atom_157 rfl rfl ?_
    obtain ⟨M10, h9, h⟩ := bd_some h
    refine wg_callVv (As := []) (rest := []) X (c_X9_fail l E ad S hS C M   h9) T_yX9_fail k_1108 cl9 (SMi hS 55 9 rfl) dX9_atom_158 rfl rfl (Nat.le_of_ble_eq_true rfl) ⟨show 0 + 1 ≤ d + 9 by omega, show 8 + (1 + 11) + 0 ≤ 40 * (d + 1) + 300 by omega⟩ ⟨Nat.zero_le _, Nat.zero_le _⟩ ?_
    refine wg_iload_n X 1 dX9_atom_161 rfl rfl ?_
    exact wg_iret X ⟨(Prod.mk.inj (sm_inj h)).1, rfl, (Prod.mk.inj (sm_inj h)).2⟩ hr dX9_atom_162
  · have h := if_t c8 h
    refine wg_aload_n X 0 dX9_atom_130 rfl rfl ?_
    refine wg_getM X cl9 (SMi hS 55 9 rfl) 24 (by decide) dX9_atom_131 k_906 rfl ?_
    refine wg_iconst (v := 1) X dX9_atom_134 (by decide) ?_
    refine wg_icmp_ne X 157 dX9_atom_135 (by decide) (fun c11 => ?_) (fun c11 => ?_)
    · have h := if_f c11 h
      refine wg_aload_n X 0 dX9_atom_157 rfl rfl ?_
      obtain ⟨M13, h12, h⟩ := bd_some h
      refine wg_callVv (As := []) (rest := []) X (c_X9_fail l E ad S hS C M   h12) T_yX9_fail k_1108 cl9 (SMi hS 55 9 rfl) dX9_atom_158 rfl rfl (Nat.le_of_ble_eq_true rfl) ⟨show 0 + 1 ≤ d + 9 by omega, show 8 + (1 + 11) + 0 ≤ 40 * (d + 1) + 300 by omega⟩ ⟨Nat.zero_le _, Nat.zero_le _⟩ ?_
      refine wg_iload_n X 1 dX9_atom_161 rfl rfl ?_
      exact wg_iret X ⟨(Prod.mk.inj (sm_inj h)).1, rfl, (Prod.mk.inj (sm_inj h)).2⟩ hr dX9_atom_162
    · have h := if_t c11 h
      refine wg_aload_n X 0 dX9_atom_138 rfl rfl ?_
      obtain ⟨r15, M16, h14, h⟩ := bd2_some h
      refine wg_callVi (As := []) (rest := []) X (c_X9_name l E ad S hS C M   h14) T_yX9_name k_1144 cl9 (SMi hS 55 9 rfl) dX9_atom_139 rfl rfl (Nat.le_of_ble_eq_true rfl) ⟨show 3 + 1 ≤ d + 9 by omega, show 8 + (1 + 11) + 71 ≤ 40 * (d + 1) + 300 by omega⟩ ⟨Nat.zero_le _, Nat.zero_le _⟩ ?_
      refine wg_istore_n (lv' := [(1, .int r15), (0, .ref (ad 55))]) X dX9_atom_142 rfl rfl (by decide) rfl ?_
      refine wg_aload_n X 1 dX9_atom_143 rfl rfl ?_
      refine wg_getM X cl9 (SMi hS 55 9 rfl) 28 (by decide) dX9_atom_144 k_910 rfl ?_
      refine wg_if_ne X 161 dX9_atom_147 (by decide) (fun c17 => ?_) (fun c17 => ?_)
      · have h := if_f c17 h
        refine wg_iload_n X 0 dX9_atom_161 rfl rfl ?_
        exact wg_iret X ⟨(Prod.mk.inj (sm_inj h)).1, rfl, (Prod.mk.inj (sm_inj h)).2⟩ hr dX9_atom_162
      · have h := if_t c17 h
        refine wg_aload_n X 1 dX9_atom_150 rfl rfl ?_
        obtain ⟨M19, h18, h⟩ := bd_some h
        refine wg_callVv (As := []) (rest := []) X (c_X9_next l E ad S hS N C M16   h18) T_yX9_next k_1083 cl9 (SMi hS 55 9 rfl) dX9_atom_151 rfl rfl (Nat.le_of_ble_eq_true rfl) ⟨show 1 + 1 ≤ d + 9 by omega, show 8 + (3 + 11) + 25 ≤ 40 * (d + 1) + 300 by omega⟩ ⟨Nat.zero_le _, Nat.zero_le _⟩ ?_
        refine wg_goto X 161 dX9_atom_154 (by decide) ?_
        refine wg_iload_n X 0 dX9_atom_161 rfl rfl ?_
        exact wg_iret X ⟨(Prod.mk.inj (sm_inj h)).1, rfl, (Prod.mk.inj (sm_inj h)).2⟩ hr dX9_atom_162
set_option maxHeartbeats 4000000 in
set_option maxRecDepth 100000 in
theorem J_X9_atom_j71 {p : Program} {l : Launch} {e : Env} {s : State} {m : MethodId} {args : Array Value} {below : List Frame} {meth : Method} {c : Code} {E : wg_Ev} {ad : Nat → Nat} {S : wg_Sh} (X : wg_X p s m args meth c cX9_atom 2 RX9 E) (hr : meth.sig.returnType = (some .int)) (hS : wg_SM S) (r0 : Int32) (D0 : wg_M) (C : wg_C) (N : Nat) (d : Nat) (rc : Nat → wg_M → Option (Int32 × wg_M)) (hrc : ∀ (k : Nat) (D : wg_M) (r0 : Int32) (D0 : wg_M), rc k D  = some (r0, D0) → R_X9g l E ad S C d k D  r0 D0)  (M : wg_M)  (x1 : Int32)   (h : f_X9_atom_j71 N rc M  x1 = some (r0, D0)) : G_X9_atom d p l e s m args below meth c E ad S r0 C D0 71 C M [(0, .ref (ad 55)), (1, .int x1)] [] := by
  unfold f_X9_atom_j71 at h
  refine wg_aload_n X 0 dX9_atom_71 rfl rfl ?_
  refine wg_dup X dX9_atom_72 rfl ?_
  refine wg_getM X cl9 (SMi hS 55 9 rfl) 27 (by decide) dX9_atom_73 k_909 rfl ?_
  refine wg_iconst (v := 1) X dX9_atom_76 (by decide) ?_
  refine wg_isub X dX9_atom_77 ?_
  obtain ⟨M35, e36, h⟩ := lt_some h
  refine wg_putMe X cl9 (SMi hS 55 9 rfl) 27 (by decide) dX9_atom_78 k_909 rfl rfl rfl rfl e36 ?_
  refine wg_aload_n X 0 dX9_atom_81 rfl rfl ?_
  refine wg_getM X cl9 (SMi hS 55 9 rfl) 28 (by decide) dX9_atom_82 k_910 rfl ?_
  refine wg_if_ne X 161 dX9_atom_85 (by decide) (fun c37 => ?_) (fun c37 => ?_)
  · have h := if_f c37 h
    refine wg_iload_n X 1 dX9_atom_161 rfl rfl ?_
    exact wg_iret X ⟨(Prod.mk.inj (sm_inj h)).1, rfl, (Prod.mk.inj (sm_inj h)).2⟩ hr dX9_atom_162
  · have h := if_t c37 h
    refine wg_aload_n X 0 dX9_atom_88 rfl rfl ?_
    obtain ⟨M39, h38, h⟩ := bd_some h
    refine wg_callVv (As := []) (rest := []) X (c_X9_next l E ad S hS N C M35   h38) T_yX9_next k_1083 cl9 (SMi hS 55 9 rfl) dX9_atom_89 rfl rfl (Nat.le_of_ble_eq_true rfl) ⟨show 1 + 1 ≤ d + 9 by omega, show 8 + (3 + 11) + 25 ≤ 40 * (d + 1) + 300 by omega⟩ ⟨Nat.zero_le _, Nat.zero_le _⟩ ?_
    refine wg_goto X 161 dX9_atom_92 (by decide) ?_
    refine wg_iload_n X 1 dX9_atom_161 rfl rfl ?_
    exact wg_iret X ⟨(Prod.mk.inj (sm_inj h)).1, rfl, (Prod.mk.inj (sm_inj h)).2⟩ hr dX9_atom_162
set_option maxHeartbeats 4000000 in
set_option maxRecDepth 100000 in
theorem c_X9_atom (l : Launch) (E : wg_Ev) (ad : Nat → Nat) (S : wg_Sh) (hS : wg_SM S) (N : Nat) (d : Nat) (rc : Nat → wg_M → Option (Int32 × wg_M)) (C : wg_C) (hrc : ∀ (k : Nat) (D : wg_M) (r0 : Int32) (D0 : wg_M), rc k D  = some (r0, D0) → R_X9g l E ad S C d k D  r0 D0) (M : wg_M)   {r0 : Int32} {D0 : wg_M} (h : f_X9_atom N rc M  = some (r0, D0)) : wg_Ci l yX9_atom cX9_atom 2 (some .int) (d + 9) (40 * (d + 1) + 300) E ad S C M [.ref (ad 55)] r0 C D0 := by
  refine wg_start (own := RX9) (by decide +kernel) rfl (Nat.le_of_ble_eq_true rfl) ?_
  intro p e s m below meth c X hr hnm
  refine wg_lv (lv' := [(0, .ref (ad 55))]) rfl ?_
  unfold f_X9_atom at h
  refine wg_iconst (v := 0) X dX9_atom_0 (by decide) ?_
  refine wg_istore_n (lv' := [(1, .int (0 : Int32)), (0, .ref (ad 55))]) X dX9_atom_1 rfl rfl (by decide) rfl ?_
  refine wg_aload_n X 1 dX9_atom_2 rfl rfl ?_
  refine wg_bipush (v := 45) X dX9_atom_3 (by decide) ?_
  obtain ⟨r2, h1, h⟩ := bd_some h
  refine wg_callVi (As := [.int (45 : Int32)]) (rest := []) X (c_X9_isSign l E ad S hS C M (45 : Int32)  h1) T_yX9_isSign k_1140 cl9 (SMi hS 55 9 rfl) dX9_atom_5 rfl rfl (Nat.le_of_ble_eq_true rfl) ⟨show 0 + 1 ≤ d + 9 by omega, show 8 + (2 + 11) + 0 ≤ 40 * (d + 1) + 300 by omega⟩ ⟨Nat.zero_le _, Nat.zero_le _⟩ ?_
  refine wg_if_eq X 37 dX9_atom_8 (by decide) (fun c3 => ?_) (fun c3 => ?_)
  · have h := if_t c3 h
    refine wg_aload_n X 1 dX9_atom_37 rfl rfl ?_
    refine wg_bipush (v := 40) X dX9_atom_38 (by decide) ?_
    obtain ⟨r5, h4, h⟩ := bd_some h
    refine wg_callVi (As := [.int (40 : Int32)]) (rest := []) X (c_X9_isSign l E ad S hS C M (40 : Int32)  h4) T_yX9_isSign k_1140 cl9 (SMi hS 55 9 rfl) dX9_atom_40 rfl rfl (Nat.le_of_ble_eq_true rfl) ⟨show 0 + 1 ≤ d + 9 by omega, show 8 + (2 + 11) + 0 ≤ 40 * (d + 1) + 300 by omega⟩ ⟨Nat.zero_le _, Nat.zero_le _⟩ ?_
    refine wg_if_eq X 95 dX9_atom_43 (by decide) (fun c6 => ?_) (fun c6 => ?_)
    · have h := if_t c6 h
      refine wg_aload_n X 1 dX9_atom_95 rfl rfl ?_
      refine wg_getM X cl9 (SMi hS 55 9 rfl) 28 (by decide) dX9_atom_96 k_910 rfl ?_
      refine wg_if_ne X 123 dX9_atom_99 (by decide) (fun c7 => ?_) (fun c7 => ?_)
      · have h := if_f c7 h
        refine wg_pick [1, 0] (lv' := [(0, .ref (ad 55)), (1, .int (0 : Int32))]) rfl ?_
        exact J_X9_atom_j123 X hr hS r0 D0 C N d rc hrc  M  (0 : Int32)   h
      · have h := if_t c7 h
        refine wg_aload_n X 1 dX9_atom_102 rfl rfl ?_
        refine wg_getM X cl9 (SMi hS 55 9 rfl) 24 (by decide) dX9_atom_103 k_906 rfl ?_
        refine wg_iconst (v := 2) X dX9_atom_106 (by decide) ?_
        refine wg_icmp_ne X 123 dX9_atom_107 (by decide) (fun c20 => ?_) (fun c20 => ?_)
        · have h := if_f c20 h
          refine wg_pick [1, 0] (lv' := [(0, .ref (ad 55)), (1, .int (0 : Int32))]) rfl ?_
          exact J_X9_atom_j123 X hr hS r0 D0 C N d rc hrc  M  (0 : Int32)   h
        · have h := if_t c20 h
          refine wg_aload_n X 1 dX9_atom_110 rfl rfl ?_
          refine wg_getJ X cl9 (SMi hS 55 9 rfl) 26 (by decide) dX9_atom_111 k_908 rfl ?_
          refine wg_l2i X dX9_atom_114 ?_
          obtain ⟨v21, e22, h⟩ := lt_some h
          refine wg_istore_n (lv' := [(1, .int v21), (0, .ref (ad 55))]) X dX9_atom_115 rfl e22 (by decide) rfl ?_
          refine wg_aload_n X 1 dX9_atom_116 rfl rfl ?_
          obtain ⟨M24, h23, h⟩ := bd_some h
          refine wg_callVv (As := []) (rest := []) X (c_X9_next l E ad S hS N C M   h23) T_yX9_next k_1083 cl9 (SMi hS 55 9 rfl) dX9_atom_117 rfl rfl (Nat.le_of_ble_eq_true rfl) ⟨show 1 + 1 ≤ d + 9 by omega, show 8 + (3 + 11) + 25 ≤ 40 * (d + 1) + 300 by omega⟩ ⟨Nat.zero_le _, Nat.zero_le _⟩ ?_
          refine wg_goto X 161 dX9_atom_120 (by decide) ?_
          refine wg_iload_n X 0 dX9_atom_161 rfl rfl ?_
          exact wg_iret X ⟨(Prod.mk.inj (sm_inj h)).1, rfl, (Prod.mk.inj (sm_inj h)).2⟩ hr dX9_atom_162
    · have h := if_f c6 h
      refine wg_aload_n X 1 dX9_atom_46 rfl rfl ?_
      obtain ⟨r26, M27, h25, h⟩ := bd2_some h
      refine wg_callVi (As := []) (rest := []) X (c_X9_opens l E ad S hS N C M   h25) T_yX9_opens k_1124 cl9 (SMi hS 55 9 rfl) dX9_atom_47 rfl rfl (Nat.le_of_ble_eq_true rfl) ⟨show 2 + 1 ≤ d + 9 by omega, show 8 + (1 + 11) + 47 ≤ 40 * (d + 1) + 300 by omega⟩ ⟨Nat.zero_le _, Nat.zero_le _⟩ ?_
      refine wg_if_eq X 161 dX9_atom_50 (by decide) (fun c28 => ?_) (fun c28 => ?_)
      · have h := if_t c28 h
        refine wg_iload_n X 0 dX9_atom_161 rfl rfl ?_
        exact wg_iret X ⟨(Prod.mk.inj (sm_inj h)).1, rfl, (Prod.mk.inj (sm_inj h)).2⟩ hr dX9_atom_162
      · have h := if_f c28 h
        refine wg_aload_n X 1 dX9_atom_53 rfl rfl ?_
        obtain ⟨r30, M31, h29, h⟩ := bd2_some h
        refine wg_callVi (As := []) (rest := []) X (show wg_Ci l yX9_either cX9_either 3 (some .int) (d + 8) (40 * d + 300) E ad S C M27 [.ref (ad 55)] r30 C M31 from hrc 5 M27  r30 M31 h29) T_yX9_either k_1112 cl9 (SMi hS 55 9 rfl) dX9_atom_54 rfl rfl (Nat.le_of_ble_eq_true rfl) ⟨show (d + 8) + 1 ≤ d + 9 by omega, show 8 + (3 + 11) + (40 * d + 300) ≤ 40 * (d + 1) + 300 by omega⟩ ⟨Nat.zero_le _, Nat.zero_le _⟩ ?_
        refine wg_istore_n (lv' := [(1, .int r30), (0, .ref (ad 55))]) X dX9_atom_57 rfl rfl (by decide) rfl ?_
        refine wg_aload_n X 1 dX9_atom_58 rfl rfl ?_
        refine wg_bipush (v := 41) X dX9_atom_59 (by decide) ?_
        obtain ⟨r33, h32, h⟩ := bd_some h
        refine wg_callVi (As := [.int (41 : Int32)]) (rest := []) X (c_X9_isSign l E ad S hS C M31 (41 : Int32)  h32) T_yX9_isSign k_1140 cl9 (SMi hS 55 9 rfl) dX9_atom_61 rfl rfl (Nat.le_of_ble_eq_true rfl) ⟨show 0 + 1 ≤ d + 9 by omega, show 8 + (2 + 11) + 0 ≤ 40 * (d + 1) + 300 by omega⟩ ⟨Nat.zero_le _, Nat.zero_le _⟩ ?_
        refine wg_if_ne X 71 dX9_atom_64 (by decide) (fun c34 => ?_) (fun c34 => ?_)
        · have h := if_f c34 h
          refine wg_pick [1, 0] (lv' := [(0, .ref (ad 55)), (1, .int r30)]) rfl ?_
          exact J_X9_atom_j71 X hr hS r0 D0 C N d rc hrc  M31  r30   h
        · have h := if_t c34 h
          refine wg_aload_n X 1 dX9_atom_67 rfl rfl ?_
          obtain ⟨M41, h40, h⟩ := bd_some h
          refine wg_callVv (As := []) (rest := []) X (c_X9_fail l E ad S hS C M31   h40) T_yX9_fail k_1108 cl9 (SMi hS 55 9 rfl) dX9_atom_68 rfl rfl (Nat.le_of_ble_eq_true rfl) ⟨show 0 + 1 ≤ d + 9 by omega, show 8 + (1 + 11) + 0 ≤ 40 * (d + 1) + 300 by omega⟩ ⟨Nat.zero_le _, Nat.zero_le _⟩ ?_
          refine wg_pick [1, 0] (lv' := [(0, .ref (ad 55)), (1, .int r30)]) rfl ?_
          exact J_X9_atom_j71 X hr hS r0 D0 C N d rc hrc  M41  r30   h
  · have h := if_f c3 h
    refine wg_aload_n X 1 dX9_atom_11 rfl rfl ?_
    obtain ⟨r43, M44, h42, h⟩ := bd2_some h
    refine wg_callVi (As := []) (rest := []) X (c_X9_opens l E ad S hS N C M   h42) T_yX9_opens k_1124 cl9 (SMi hS 55 9 rfl) dX9_atom_12 rfl rfl (Nat.le_of_ble_eq_true rfl) ⟨show 2 + 1 ≤ d + 9 by omega, show 8 + (1 + 11) + 47 ≤ 40 * (d + 1) + 300 by omega⟩ ⟨Nat.zero_le _, Nat.zero_le _⟩ ?_
    refine wg_if_eq X 161 dX9_atom_15 (by decide) (fun c45 => ?_) (fun c45 => ?_)
    · have h := if_t c45 h
      refine wg_iload_n X 0 dX9_atom_161 rfl rfl ?_
      exact wg_iret X ⟨(Prod.mk.inj (sm_inj h)).1, rfl, (Prod.mk.inj (sm_inj h)).2⟩ hr dX9_atom_162
    · have h := if_f c45 h
      refine wg_aload_n X 1 dX9_atom_18 rfl rfl ?_
      obtain ⟨r47, M48, h46, h⟩ := bd2_some h
      refine wg_callVi (As := []) (rest := []) X (show wg_Ci l yX9_atom cX9_atom 2 (some .int) (d + 8) (40 * d + 300) E ad S C M44 [.ref (ad 55)] r47 C M48 from hrc 0 M44  r47 M48 h46) T_yX9_atom k_1136 cl9 (SMi hS 55 9 rfl) dX9_atom_19 rfl rfl (Nat.le_of_ble_eq_true rfl) ⟨show (d + 8) + 1 ≤ d + 9 by omega, show 8 + (2 + 11) + (40 * d + 300) ≤ 40 * (d + 1) + 300 by omega⟩ ⟨Nat.zero_le _, Nat.zero_le _⟩ ?_
      refine wg_ineg X dX9_atom_22 ?_
      obtain ⟨v49, e50, h⟩ := lt_some h
      refine wg_istore_n (lv' := [(1, .int v49), (0, .ref (ad 55))]) X dX9_atom_23 rfl e50 (by decide) rfl ?_
      refine wg_aload_n X 1 dX9_atom_24 rfl rfl ?_
      refine wg_dup X dX9_atom_25 rfl ?_
      refine wg_getM X cl9 (SMi hS 55 9 rfl) 27 (by decide) dX9_atom_26 k_909 rfl ?_
      refine wg_iconst (v := 1) X dX9_atom_29 (by decide) ?_
      refine wg_isub X dX9_atom_30 ?_
      obtain ⟨M51, e52, h⟩ := lt_some h
      refine wg_putMe X cl9 (SMi hS 55 9 rfl) 27 (by decide) dX9_atom_31 k_909 rfl rfl rfl rfl e52 ?_
      refine wg_goto X 161 dX9_atom_34 (by decide) ?_
      refine wg_iload_n X 0 dX9_atom_161 rfl rfl ?_
      exact wg_iret X ⟨(Prod.mk.inj (sm_inj h)).1, rfl, (Prod.mk.inj (sm_inj h)).2⟩ hr dX9_atom_162
-- WindowsGiveModel.term()I (('c', 55),)
def f_X9_term_l5 (N : Nat) (rc : Nat → wg_M → Option (Int32 × wg_M))   (M : wg_M) (x1 : Int32) : Option ((wg_M × Int32) ⊕ (wg_M × Int32)) :=
  bd (f_X9_isSign M (42 : Int32)) fun r5 =>
  if r5 = 0 then (
    some (.inr (M, x1)))
  else (
    bd (f_X9_next N M ) fun M8 =>
    bd2 (rc 0 M8 ) fun r10 M11 =>
    lt_ (x1 * r10) fun v12 =>
    some (.inl (M11, v12)))
def f_X9_term (N : Nat) (rc : Nat → wg_M → Option (Int32 × wg_M)) (M : wg_M)  : Option (Int32 × wg_M) :=
  bd2 (rc 0 M ) fun r2 M3 =>
  bd2 (lp (fun o => f_X9_term_l5 N rc   o.1 o.2) N (M3, r2)) fun M14 v15 =>
  some (v15, M14)
abbrev G_X9_term (d : Nat) (p : Program) (l : Launch) (e : Env) (s : State) (m : MethodId) (args : Array Value) (below : List Frame) (meth : Method) (c : Code) (E : wg_Ev) (ad : Nat → Nat) (S : wg_Sh) (r0 : Int32) (C0 : wg_C) (M0 : wg_M) (pc : Nat) (C : wg_C) (M : wg_M) (lv : List (Nat × Value)) (st : List Value) : Prop := wg_G p l e (wg_Rm (d + 9) (40 * (d + 1) + 300)) s m args below meth c (MQ below (wg_Qi E ad S r0 C0 M0) args s 0 0 (wg_A E)) 2 E ad S 0 0 pc C M lv st
set_option maxHeartbeats 4000000 in
set_option maxRecDepth 100000 in
theorem L_X9_term_l5 {p : Program} {l : Launch} {e : Env} {s : State} {m : MethodId} {args : Array Value} {below : List Frame} {meth : Method} {c : Code} {E : wg_Ev} {ad : Nat → Nat} {S : wg_Sh} (X : wg_X p s m args meth c cX9_term 2 RX9 E) (hr : meth.sig.returnType = (some .int)) (hS : wg_SM S) (r0 : Int32) (D0 : wg_M) (C : wg_C) (N : Nat) (d : Nat) (rc : Nat → wg_M → Option (Int32 × wg_M)) (hrc : ∀ (k : Nat) (D : wg_M) (r0 : Int32) (D0 : wg_M), rc k D  = some (r0, D0) → R_X9g l E ad S C d k D  r0 D0)     : ∀ (n : Nat) (M : wg_M) (x1 : Int32) (o : (wg_M × Int32)), lp (fun o => f_X9_term_l5 N rc   o.1 o.2) n (M, x1) = some o → (∀ (Dy : wg_M) (y1 : Int32), o = (Dy, y1) → G_X9_term d p l e s m args below meth c E ad S r0 C D0 28 C Dy [(0, .ref (ad 55)), (1, .int y1)] []) → G_X9_term d p l e s m args below meth c E ad S r0 C D0 5 C M [(0, .ref (ad 55)), (1, .int x1)] [] := by
  intro n
  induction n with
  | zero => exact fun _ _ o h => (lp_zero h).elim
  | succ n ih =>
    intro M x1 o h K
    obtain ⟨o1, hb, h2⟩ := lp_some h
    replace hb : f_X9_term_l5 N rc   M x1 = some o1 := hb
    clear h
    have Kc : ∀ (Dy : wg_M) (y1 : Int32), o1 = Sum.inl (Dy, y1) → G_X9_term d p l e s m args below meth c E ad S r0 C D0 5 C Dy [(0, .ref (ad 55)), (1, .int y1)] [] := fun Dy y1 e1 => by
      subst e1
      exact ih Dy y1 o h2 K
    have Ke : ∀ (Dy : wg_M) (y1 : Int32), o1 = Sum.inr ((Dy, y1)) → G_X9_term d p l e s m args below meth c E ad S r0 C D0 28 C Dy [(0, .ref (ad 55)), (1, .int y1)] [] := fun Dy y1 e1 => by
      subst e1
      exact K Dy y1 (sm_inj (α := (wg_M × Int32)) h2).symm
    clear ih K h2
    unfold f_X9_term_l5 at hb
    have h := hb
    clear hb
    refine wg_aload_n X 0 dX9_term_5 rfl rfl ?_
    refine wg_bipush (v := 42) X dX9_term_6 (by decide) ?_
    obtain ⟨r5, h4, h⟩ := bd_some h
    refine wg_callVi (As := [.int (42 : Int32)]) (rest := []) X (c_X9_isSign l E ad S hS C M (42 : Int32)  h4) T_yX9_isSign k_1140 cl9 (SMi hS 55 9 rfl) dX9_term_8 rfl rfl (Nat.le_of_ble_eq_true rfl) ⟨show 0 + 1 ≤ d + 9 by omega, show 8 + (2 + 11) + 0 ≤ 40 * (d + 1) + 300 by omega⟩ ⟨Nat.zero_le _, Nat.zero_le _⟩ ?_
    refine wg_if_eq X 28 dX9_term_11 (by decide) (fun c6 => ?_) (fun c6 => ?_)
    · have h := if_t c6 h
      exact Ke M x1 (sm_inj h).symm
    · have h := if_f c6 h
      refine wg_aload_n X 0 dX9_term_14 rfl rfl ?_
      obtain ⟨M8, h7, h⟩ := bd_some h
      refine wg_callVv (As := []) (rest := []) X (c_X9_next l E ad S hS N C M   h7) T_yX9_next k_1083 cl9 (SMi hS 55 9 rfl) dX9_term_15 rfl rfl (Nat.le_of_ble_eq_true rfl) ⟨show 1 + 1 ≤ d + 9 by omega, show 8 + (3 + 11) + 25 ≤ 40 * (d + 1) + 300 by omega⟩ ⟨Nat.zero_le _, Nat.zero_le _⟩ ?_
      refine wg_iload_n X 1 dX9_term_18 rfl rfl ?_
      refine wg_aload_n X 0 dX9_term_19 rfl rfl ?_
      obtain ⟨r10, M11, h9, h⟩ := bd2_some h
      refine wg_callVi (As := []) (rest := [.int x1]) X (show wg_Ci l yX9_atom cX9_atom 2 (some .int) (d + 8) (40 * d + 300) E ad S C M8 [.ref (ad 55)] r10 C M11 from hrc 0 M8  r10 M11 h9) T_yX9_atom k_1136 cl9 (SMi hS 55 9 rfl) dX9_term_20 rfl rfl (Nat.le_of_ble_eq_true rfl) ⟨show (d + 8) + 1 ≤ d + 9 by omega, show 8 + (2 + 11) + (40 * d + 300) ≤ 40 * (d + 1) + 300 by omega⟩ ⟨Nat.zero_le _, Nat.zero_le _⟩ ?_
      refine wg_imul X dX9_term_23 ?_
      obtain ⟨v12, e13, h⟩ := lt_some h
      refine wg_istore_n (lv' := [(1, .int v12), (0, .ref (ad 55))]) X dX9_term_24 rfl e13 (by decide) rfl ?_
      refine wg_goto X 5 dX9_term_25 (by decide) ?_
      refine wg_pick [1, 0] (lv' := [(0, .ref (ad 55)), (1, .int v12)]) rfl ?_
      exact Kc M11 v12 (sm_inj h).symm
set_option maxHeartbeats 4000000 in
set_option maxRecDepth 100000 in
theorem c_X9_term (l : Launch) (E : wg_Ev) (ad : Nat → Nat) (S : wg_Sh) (hS : wg_SM S) (N : Nat) (d : Nat) (rc : Nat → wg_M → Option (Int32 × wg_M)) (C : wg_C) (hrc : ∀ (k : Nat) (D : wg_M) (r0 : Int32) (D0 : wg_M), rc k D  = some (r0, D0) → R_X9g l E ad S C d k D  r0 D0) (M : wg_M)   {r0 : Int32} {D0 : wg_M} (h : f_X9_term N rc M  = some (r0, D0)) : wg_Ci l yX9_term cX9_term 2 (some .int) (d + 9) (40 * (d + 1) + 300) E ad S C M [.ref (ad 55)] r0 C D0 := by
  refine wg_start (own := RX9) (by decide +kernel) rfl (Nat.le_of_ble_eq_true rfl) ?_
  intro p e s m below meth c X hr hnm
  refine wg_lv (lv' := [(0, .ref (ad 55))]) rfl ?_
  unfold f_X9_term at h
  refine wg_aload_n X 0 dX9_term_0 rfl rfl ?_
  obtain ⟨r2, M3, h1, h⟩ := bd2_some h
  refine wg_callVi (As := []) (rest := []) X (show wg_Ci l yX9_atom cX9_atom 2 (some .int) (d + 8) (40 * d + 300) E ad S C M [.ref (ad 55)] r2 C M3 from hrc 0 M  r2 M3 h1) T_yX9_atom k_1136 cl9 (SMi hS 55 9 rfl) dX9_term_1 rfl rfl (Nat.le_of_ble_eq_true rfl) ⟨show (d + 8) + 1 ≤ d + 9 by omega, show 8 + (2 + 11) + (40 * d + 300) ≤ 40 * (d + 1) + 300 by omega⟩ ⟨Nat.zero_le _, Nat.zero_le _⟩ ?_
  refine wg_istore_n (lv' := [(1, .int r2), (0, .ref (ad 55))]) X dX9_term_4 rfl rfl (by decide) rfl ?_
  obtain ⟨o16, h17, h⟩ := bd2_o h
  refine wg_pick [1, 0] (lv' := [(0, .ref (ad 55)), (1, .int r2)]) rfl ?_
  refine L_X9_term_l5 X hr hS r0 D0 C N d rc hrc     N M3 r2 o16 h17 (fun M14 v15 e19 => ?_)
  · subst e19
    replace h := bd2_in h
    refine wg_iload_n X 1 dX9_term_28 rfl rfl ?_
    exact wg_iret X ⟨(Prod.mk.inj (sm_inj h)).1, rfl, (Prod.mk.inj (sm_inj h)).2⟩ hr dX9_term_29
-- WindowsGiveModel.added()I (('c', 55),)
def f_X9_added_j39l5 (N : Nat) (rc : Nat → wg_M → Option (Int32 × wg_M)) (M : wg_M)  (x1 : Int32) (s0 : Int32) : Option ((wg_M × Int32) ⊕ (wg_M × Int32)) :=
  bd (f_X9_next N M ) fun M9 =>
  bd2 (rc 1 M9 ) fun r11 M12 =>
  if s0 = 0 then (
    lt_ (x1 - r11) fun v14 =>
    some (.inl (M12, v14)))
  else (
    lt_ (x1 + r11) fun v16 =>
    some (.inl (M12, v16)))
def f_X9_added_j23l5 (N : Nat) (rc : Nat → wg_M → Option (Int32 × wg_M)) (M : wg_M)  (x1 : Int32) : Option ((wg_M × Int32) ⊕ (wg_M × Int32)) :=
  if (lg_cmp (M.2 55) (43 : Int64)) = 0 then (
    f_X9_added_j39l5 N rc M  x1 (1 : Int32))
  else (
    f_X9_added_j39l5 N rc M  x1 (0 : Int32))
def f_X9_added_l5 (N : Nat) (rc : Nat → wg_M → Option (Int32 × wg_M))   (M : wg_M) (x1 : Int32) : Option ((wg_M × Int32) ⊕ (wg_M × Int32)) :=
  bd (f_X9_isSign M (43 : Int32)) fun r5 =>
  if r5 = 0 then (
    bd (f_X9_isSign M (45 : Int32)) fun r19 =>
    if r19 = 0 then (
      some (.inr (M, x1)))
    else (
      f_X9_added_j23l5 N rc M  x1))
  else (
    f_X9_added_j23l5 N rc M  x1)
def f_X9_added (N : Nat) (rc : Nat → wg_M → Option (Int32 × wg_M)) (M : wg_M)  : Option (Int32 × wg_M) :=
  bd2 (rc 1 M ) fun r2 M3 =>
  bd2 (lp (fun o => f_X9_added_l5 N rc   o.1 o.2) N (M3, r2)) fun M21 v22 =>
  some (v22, M21)
abbrev G_X9_added (d : Nat) (p : Program) (l : Launch) (e : Env) (s : State) (m : MethodId) (args : Array Value) (below : List Frame) (meth : Method) (c : Code) (E : wg_Ev) (ad : Nat → Nat) (S : wg_Sh) (r0 : Int32) (C0 : wg_C) (M0 : wg_M) (pc : Nat) (C : wg_C) (M : wg_M) (lv : List (Nat × Value)) (st : List Value) : Prop := wg_G p l e (wg_Rm (d + 9) (40 * (d + 1) + 300)) s m args below meth c (MQ below (wg_Qi E ad S r0 C0 M0) args s 0 0 (wg_A E)) 4 E ad S 0 0 pc C M lv st
set_option maxHeartbeats 4000000 in
set_option maxRecDepth 100000 in
theorem J_X9_added_j39l5 {p : Program} {l : Launch} {e : Env} {s : State} {m : MethodId} {args : Array Value} {below : List Frame} {meth : Method} {c : Code} {E : wg_Ev} {ad : Nat → Nat} {S : wg_Sh} (X : wg_X p s m args meth c cX9_added 4 RX9 E) (hr : meth.sig.returnType = (some .int)) (hS : wg_SM S) (r0 : Int32) (D0 : wg_M) (C : wg_C) (N : Nat) (d : Nat) (rc : Nat → wg_M → Option (Int32 × wg_M)) (hrc : ∀ (k : Nat) (D : wg_M) (r0 : Int32) (D0 : wg_M), rc k D  = some (r0, D0) → R_X9g l E ad S C d k D  r0 D0)  (M : wg_M)  (x1 : Int32) (s0 : Int32)  (y : ((wg_M × Int32) ⊕ (wg_M × Int32))) (Kc : ∀ (Dy : wg_M) (y1 : Int32), y = Sum.inl (Dy, y1) → G_X9_added d p l e s m args below meth c E ad S r0 C D0 5 C Dy [(0, .ref (ad 55)), (1, .int y1)] []) (Ke : ∀ (Dy : wg_M) (y1 : Int32), y = Sum.inr ((Dy, y1)) → G_X9_added d p l e s m args below meth c E ad S r0 C D0 66 C Dy [(0, .ref (ad 55)), (1, .int y1)] []) (h : f_X9_added_j39l5 N rc M  x1 s0 = some y) : G_X9_added d p l e s m args below meth c E ad S r0 C D0 39 C M [(0, .ref (ad 55)), (1, .int x1)] [.int s0] := by
  unfold f_X9_added_j39l5 at h
  refine wg_istore_n (lv' := [(2, .int s0), (0, .ref (ad 55)), (1, .int x1)]) X dX9_added_39 rfl rfl (by decide) rfl ?_
  refine wg_aload_n X 1 dX9_added_40 rfl rfl ?_
  obtain ⟨M9, h8, h⟩ := bd_some h
  refine wg_callVv (As := []) (rest := []) X (c_X9_next l E ad S hS N C M   h8) T_yX9_next k_1083 cl9 (SMi hS 55 9 rfl) dX9_added_41 rfl rfl (Nat.le_of_ble_eq_true rfl) ⟨show 1 + 1 ≤ d + 9 by omega, show 8 + (3 + 11) + 25 ≤ 40 * (d + 1) + 300 by omega⟩ ⟨Nat.zero_le _, Nat.zero_le _⟩ ?_
  refine wg_aload_n X 1 dX9_added_44 rfl rfl ?_
  obtain ⟨r11, M12, h10, h⟩ := bd2_some h
  refine wg_callVi (As := []) (rest := []) X (show wg_Ci l yX9_term cX9_term 2 (some .int) (d + 8) (40 * d + 300) E ad S C M9 [.ref (ad 55)] r11 C M12 from hrc 1 M9  r11 M12 h10) T_yX9_term k_1132 cl9 (SMi hS 55 9 rfl) dX9_added_45 rfl rfl (Nat.le_of_ble_eq_true rfl) ⟨show (d + 8) + 1 ≤ d + 9 by omega, show 8 + (2 + 11) + (40 * d + 300) ≤ 40 * (d + 1) + 300 by omega⟩ ⟨Nat.zero_le _, Nat.zero_le _⟩ ?_
  refine wg_istore_n (lv' := [(3, .int r11), (2, .int s0), (0, .ref (ad 55)), (1, .int x1)]) X dX9_added_48 rfl rfl (by decide) rfl ?_
  refine wg_iload_n X 1 dX9_added_49 rfl rfl ?_
  refine wg_if_eq X 59 dX9_added_50 (by decide) (fun c13 => ?_) (fun c13 => ?_)
  · have h := if_t c13 h
    refine wg_iload_n X 3 dX9_added_59 rfl rfl ?_
    refine wg_iload_n X 0 dX9_added_60 rfl rfl ?_
    refine wg_isub X dX9_added_61 ?_
    obtain ⟨v14, e15, h⟩ := lt_some h
    refine wg_istore_n (lv' := [(1, .int v14), (3, .int r11), (2, .int s0), (0, .ref (ad 55))]) X dX9_added_62 rfl e15 (by decide) rfl ?_
    refine wg_goto X 5 dX9_added_63 (by decide) ?_
    refine wg_pick [3, 0] (lv' := [(0, .ref (ad 55)), (1, .int v14)]) rfl ?_
    exact Kc M12 v14 (sm_inj h).symm
  · have h := if_f c13 h
    refine wg_iload_n X 3 dX9_added_53 rfl rfl ?_
    refine wg_iload_n X 0 dX9_added_54 rfl rfl ?_
    refine wg_iadd X dX9_added_55 ?_
    refine wg_goto X 62 dX9_added_56 (by decide) ?_
    obtain ⟨v16, e17, h⟩ := lt_some h
    refine wg_istore_n (lv' := [(1, .int v16), (3, .int r11), (2, .int s0), (0, .ref (ad 55))]) X dX9_added_62 rfl e17 (by decide) rfl ?_
    refine wg_goto X 5 dX9_added_63 (by decide) ?_
    refine wg_pick [3, 0] (lv' := [(0, .ref (ad 55)), (1, .int v16)]) rfl ?_
    exact Kc M12 v16 (sm_inj h).symm
set_option maxHeartbeats 4000000 in
set_option maxRecDepth 100000 in
theorem J_X9_added_j23l5 {p : Program} {l : Launch} {e : Env} {s : State} {m : MethodId} {args : Array Value} {below : List Frame} {meth : Method} {c : Code} {E : wg_Ev} {ad : Nat → Nat} {S : wg_Sh} (X : wg_X p s m args meth c cX9_added 4 RX9 E) (hr : meth.sig.returnType = (some .int)) (hS : wg_SM S) (r0 : Int32) (D0 : wg_M) (C : wg_C) (N : Nat) (d : Nat) (rc : Nat → wg_M → Option (Int32 × wg_M)) (hrc : ∀ (k : Nat) (D : wg_M) (r0 : Int32) (D0 : wg_M), rc k D  = some (r0, D0) → R_X9g l E ad S C d k D  r0 D0)  (M : wg_M)  (x1 : Int32)  (y : ((wg_M × Int32) ⊕ (wg_M × Int32))) (Kc : ∀ (Dy : wg_M) (y1 : Int32), y = Sum.inl (Dy, y1) → G_X9_added d p l e s m args below meth c E ad S r0 C D0 5 C Dy [(0, .ref (ad 55)), (1, .int y1)] []) (Ke : ∀ (Dy : wg_M) (y1 : Int32), y = Sum.inr ((Dy, y1)) → G_X9_added d p l e s m args below meth c E ad S r0 C D0 66 C Dy [(0, .ref (ad 55)), (1, .int y1)] []) (h : f_X9_added_j23l5 N rc M  x1 = some y) : G_X9_added d p l e s m args below meth c E ad S r0 C D0 23 C M [(0, .ref (ad 55)), (1, .int x1)] [] := by
  unfold f_X9_added_j23l5 at h
  refine wg_aload_n X 0 dX9_added_23 rfl rfl ?_
  refine wg_getJ X cl9 (SMi hS 55 9 rfl) 26 (by decide) dX9_added_24 k_908 rfl ?_
  refine wg_ldc2 (v := 43) X dX9_added_27 k_1148 ?_
  refine wg_lcmp X dX9_added_30 ?_
  refine wg_if_ne X 38 dX9_added_31 (by decide) (fun c7 => ?_) (fun c7 => ?_)
  · have h := if_f c7 h
    refine wg_iconst (v := 0) X dX9_added_38 (by decide) ?_
    exact J_X9_added_j39l5 X hr hS r0 D0 C N d rc hrc  M  x1 (0 : Int32)  _ Kc Ke h
  · have h := if_t c7 h
    refine wg_iconst (v := 1) X dX9_added_34 (by decide) ?_
    refine wg_goto X 39 dX9_added_35 (by decide) ?_
    exact J_X9_added_j39l5 X hr hS r0 D0 C N d rc hrc  M  x1 (1 : Int32)  _ Kc Ke h
set_option maxHeartbeats 4000000 in
set_option maxRecDepth 100000 in
theorem L_X9_added_l5 {p : Program} {l : Launch} {e : Env} {s : State} {m : MethodId} {args : Array Value} {below : List Frame} {meth : Method} {c : Code} {E : wg_Ev} {ad : Nat → Nat} {S : wg_Sh} (X : wg_X p s m args meth c cX9_added 4 RX9 E) (hr : meth.sig.returnType = (some .int)) (hS : wg_SM S) (r0 : Int32) (D0 : wg_M) (C : wg_C) (N : Nat) (d : Nat) (rc : Nat → wg_M → Option (Int32 × wg_M)) (hrc : ∀ (k : Nat) (D : wg_M) (r0 : Int32) (D0 : wg_M), rc k D  = some (r0, D0) → R_X9g l E ad S C d k D  r0 D0)     : ∀ (n : Nat) (M : wg_M) (x1 : Int32) (o : (wg_M × Int32)), lp (fun o => f_X9_added_l5 N rc   o.1 o.2) n (M, x1) = some o → (∀ (Dy : wg_M) (y1 : Int32), o = (Dy, y1) → G_X9_added d p l e s m args below meth c E ad S r0 C D0 66 C Dy [(0, .ref (ad 55)), (1, .int y1)] []) → G_X9_added d p l e s m args below meth c E ad S r0 C D0 5 C M [(0, .ref (ad 55)), (1, .int x1)] [] := by
  intro n
  induction n with
  | zero => exact fun _ _ o h => (lp_zero h).elim
  | succ n ih =>
    intro M x1 o h K
    obtain ⟨o1, hb, h2⟩ := lp_some h
    replace hb : f_X9_added_l5 N rc   M x1 = some o1 := hb
    clear h
    have Kc : ∀ (Dy : wg_M) (y1 : Int32), o1 = Sum.inl (Dy, y1) → G_X9_added d p l e s m args below meth c E ad S r0 C D0 5 C Dy [(0, .ref (ad 55)), (1, .int y1)] [] := fun Dy y1 e1 => by
      subst e1
      exact ih Dy y1 o h2 K
    have Ke : ∀ (Dy : wg_M) (y1 : Int32), o1 = Sum.inr ((Dy, y1)) → G_X9_added d p l e s m args below meth c E ad S r0 C D0 66 C Dy [(0, .ref (ad 55)), (1, .int y1)] [] := fun Dy y1 e1 => by
      subst e1
      exact K Dy y1 (sm_inj (α := (wg_M × Int32)) h2).symm
    clear ih K h2
    unfold f_X9_added_l5 at hb
    have h := hb
    clear hb
    refine wg_aload_n X 0 dX9_added_5 rfl rfl ?_
    refine wg_bipush (v := 43) X dX9_added_6 (by decide) ?_
    obtain ⟨r5, h4, h⟩ := bd_some h
    refine wg_callVi (As := [.int (43 : Int32)]) (rest := []) X (c_X9_isSign l E ad S hS C M (43 : Int32)  h4) T_yX9_isSign k_1140 cl9 (SMi hS 55 9 rfl) dX9_added_8 rfl rfl (Nat.le_of_ble_eq_true rfl) ⟨show 0 + 1 ≤ d + 9 by omega, show 8 + (2 + 11) + 0 ≤ 40 * (d + 1) + 300 by omega⟩ ⟨Nat.zero_le _, Nat.zero_le _⟩ ?_
    refine wg_if_ne X 23 dX9_added_11 (by decide) (fun c6 => ?_) (fun c6 => ?_)
    · have h := if_f c6 h
      exact J_X9_added_j23l5 X hr hS r0 D0 C N d rc hrc  M  x1  _ Kc Ke h
    · have h := if_t c6 h
      refine wg_aload_n X 0 dX9_added_14 rfl rfl ?_
      refine wg_bipush (v := 45) X dX9_added_15 (by decide) ?_
      obtain ⟨r19, h18, h⟩ := bd_some h
      refine wg_callVi (As := [.int (45 : Int32)]) (rest := []) X (c_X9_isSign l E ad S hS C M (45 : Int32)  h18) T_yX9_isSign k_1140 cl9 (SMi hS 55 9 rfl) dX9_added_17 rfl rfl (Nat.le_of_ble_eq_true rfl) ⟨show 0 + 1 ≤ d + 9 by omega, show 8 + (2 + 11) + 0 ≤ 40 * (d + 1) + 300 by omega⟩ ⟨Nat.zero_le _, Nat.zero_le _⟩ ?_
      refine wg_if_eq X 66 dX9_added_20 (by decide) (fun c20 => ?_) (fun c20 => ?_)
      · have h := if_t c20 h
        exact Ke M x1 (sm_inj h).symm
      · have h := if_f c20 h
        exact J_X9_added_j23l5 X hr hS r0 D0 C N d rc hrc  M  x1  _ Kc Ke h
set_option maxHeartbeats 4000000 in
set_option maxRecDepth 100000 in
theorem c_X9_added (l : Launch) (E : wg_Ev) (ad : Nat → Nat) (S : wg_Sh) (hS : wg_SM S) (N : Nat) (d : Nat) (rc : Nat → wg_M → Option (Int32 × wg_M)) (C : wg_C) (hrc : ∀ (k : Nat) (D : wg_M) (r0 : Int32) (D0 : wg_M), rc k D  = some (r0, D0) → R_X9g l E ad S C d k D  r0 D0) (M : wg_M)   {r0 : Int32} {D0 : wg_M} (h : f_X9_added N rc M  = some (r0, D0)) : wg_Ci l yX9_added cX9_added 4 (some .int) (d + 9) (40 * (d + 1) + 300) E ad S C M [.ref (ad 55)] r0 C D0 := by
  refine wg_start (own := RX9) (by decide +kernel) rfl (Nat.le_of_ble_eq_true rfl) ?_
  intro p e s m below meth c X hr hnm
  refine wg_lv (lv' := [(0, .ref (ad 55))]) rfl ?_
  unfold f_X9_added at h
  refine wg_aload_n X 0 dX9_added_0 rfl rfl ?_
  obtain ⟨r2, M3, h1, h⟩ := bd2_some h
  refine wg_callVi (As := []) (rest := []) X (show wg_Ci l yX9_term cX9_term 2 (some .int) (d + 8) (40 * d + 300) E ad S C M [.ref (ad 55)] r2 C M3 from hrc 1 M  r2 M3 h1) T_yX9_term k_1132 cl9 (SMi hS 55 9 rfl) dX9_added_1 rfl rfl (Nat.le_of_ble_eq_true rfl) ⟨show (d + 8) + 1 ≤ d + 9 by omega, show 8 + (2 + 11) + (40 * d + 300) ≤ 40 * (d + 1) + 300 by omega⟩ ⟨Nat.zero_le _, Nat.zero_le _⟩ ?_
  refine wg_istore_n (lv' := [(1, .int r2), (0, .ref (ad 55))]) X dX9_added_4 rfl rfl (by decide) rfl ?_
  obtain ⟨o23, h24, h⟩ := bd2_o h
  refine wg_pick [1, 0] (lv' := [(0, .ref (ad 55)), (1, .int r2)]) rfl ?_
  refine L_X9_added_l5 X hr hS r0 D0 C N d rc hrc     N M3 r2 o23 h24 (fun M21 v22 e26 => ?_)
  · subst e26
    replace h := bd2_in h
    refine wg_iload_n X 1 dX9_added_66 rfl rfl ?_
    exact wg_iret X ⟨(Prod.mk.inj (sm_inj h)).1, rfl, (Prod.mk.inj (sm_inj h)).2⟩ hr dX9_added_67
-- WindowsGiveModel.not()I (('c', 55),)
def f_X9_not_j93 (N : Nat) (rc : Nat → wg_M → Option (Int32 × wg_M)) (M : wg_M)  (x1 : Int32) (s0 : Int32) : Option (Int32 × wg_M) :=
  bd (f_X9_next N M ) fun M12 =>
  bd2 (rc 2 M12 ) fun r14 M15 =>
  if s0 = 0 then (
    if x1 = r14 then (
      some ((1 : Int32), M15))
    else (
      some ((0 : Int32), M15)))
  else (
    if r14 ≤ x1 then (
      some ((0 : Int32), M15))
    else (
      some ((1 : Int32), M15)))
def f_X9_not_j77 (N : Nat) (rc : Nat → wg_M → Option (Int32 × wg_M)) (M : wg_M)  (x1 : Int32) : Option (Int32 × wg_M) :=
  if (lg_cmp (M.2 55) (60 : Int64)) = 0 then (
    f_X9_not_j93 N rc M  x1 (1 : Int32))
  else (
    f_X9_not_j93 N rc M  x1 (0 : Int32))
def f_X9_not (N : Nat) (rc : Nat → wg_M → Option (Int32 × wg_M)) (M : wg_M)  : Option (Int32 × wg_M) :=
  bd (f_X9_isWord M (110 : Int32) (111 : Int32) (116 : Int32) (0 : Int32) (0 : Int32) (0 : Int32) (0 : Int32) (0 : Int32)) fun r2 =>
  if r2 = 0 then (
    bd2 (rc 2 M ) fun r5 M6 =>
    bd (f_X9_isSign M6 (60 : Int32)) fun r8 =>
    if r8 = 0 then (
      bd (f_X9_isSign M6 (61 : Int32)) fun r20 =>
      if r20 = 0 then (
        some (r5, M6))
      else (
        f_X9_not_j77 N rc M6  r5))
    else (
      f_X9_not_j77 N rc M6  r5))
  else (
    bd2 (f_X9_opens N M ) fun r23 M24 =>
    if r23 = 0 then (
      some ((0 : Int32), M24))
    else (
      bd2 (rc 3 M24 ) fun r27 M28 =>
      lt_ (wg_sM M28 55 27 ((M28.1 55 27) - (1 : Int32))) fun M29 =>
      if r27 = 0 then (
        some ((1 : Int32), M29))
      else (
        some ((0 : Int32), M29))))
abbrev G_X9_not (d : Nat) (p : Program) (l : Launch) (e : Env) (s : State) (m : MethodId) (args : Array Value) (below : List Frame) (meth : Method) (c : Code) (E : wg_Ev) (ad : Nat → Nat) (S : wg_Sh) (r0 : Int32) (C0 : wg_C) (M0 : wg_M) (pc : Nat) (C : wg_C) (M : wg_M) (lv : List (Nat × Value)) (st : List Value) : Prop := wg_G p l e (wg_Rm (d + 9) (40 * (d + 1) + 300)) s m args below meth c (MQ below (wg_Qi E ad S r0 C0 M0) args s 0 0 (wg_A E)) 4 E ad S 0 0 pc C M lv st
set_option maxHeartbeats 4000000 in
set_option maxRecDepth 100000 in
theorem J_X9_not_j93 {p : Program} {l : Launch} {e : Env} {s : State} {m : MethodId} {args : Array Value} {below : List Frame} {meth : Method} {c : Code} {E : wg_Ev} {ad : Nat → Nat} {S : wg_Sh} (X : wg_X p s m args meth c cX9_not 4 RX9 E) (hr : meth.sig.returnType = (some .int)) (hS : wg_SM S) (r0 : Int32) (D0 : wg_M) (C : wg_C) (N : Nat) (d : Nat) (rc : Nat → wg_M → Option (Int32 × wg_M)) (hrc : ∀ (k : Nat) (D : wg_M) (r0 : Int32) (D0 : wg_M), rc k D  = some (r0, D0) → R_X9g l E ad S C d k D  r0 D0)  (M : wg_M)  (x1 : Int32) (s0 : Int32)   (h : f_X9_not_j93 N rc M  x1 s0 = some (r0, D0)) : G_X9_not d p l e s m args below meth c E ad S r0 C D0 93 C M [(0, .ref (ad 55)), (1, .int x1)] [.int s0] := by
  unfold f_X9_not_j93 at h
  refine wg_istore_n (lv' := [(2, .int s0), (0, .ref (ad 55)), (1, .int x1)]) X dX9_not_93 rfl rfl (by decide) rfl ?_
  refine wg_aload_n X 1 dX9_not_94 rfl rfl ?_
  obtain ⟨M12, h11, h⟩ := bd_some h
  refine wg_callVv (As := []) (rest := []) X (c_X9_next l E ad S hS N C M   h11) T_yX9_next k_1083 cl9 (SMi hS 55 9 rfl) dX9_not_95 rfl rfl (Nat.le_of_ble_eq_true rfl) ⟨show 1 + 1 ≤ d + 9 by omega, show 8 + (3 + 11) + 25 ≤ 40 * (d + 1) + 300 by omega⟩ ⟨Nat.zero_le _, Nat.zero_le _⟩ ?_
  refine wg_aload_n X 1 dX9_not_98 rfl rfl ?_
  obtain ⟨r14, M15, h13, h⟩ := bd2_some h
  refine wg_callVi (As := []) (rest := []) X (show wg_Ci l yX9_added cX9_added 4 (some .int) (d + 8) (40 * d + 300) E ad S C M12 [.ref (ad 55)] r14 C M15 from hrc 2 M12  r14 M15 h13) T_yX9_added k_1128 cl9 (SMi hS 55 9 rfl) dX9_not_99 rfl rfl (Nat.le_of_ble_eq_true rfl) ⟨show (d + 8) + 1 ≤ d + 9 by omega, show 8 + (4 + 11) + (40 * d + 300) ≤ 40 * (d + 1) + 300 by omega⟩ ⟨Nat.zero_le _, Nat.zero_le _⟩ ?_
  refine wg_istore_n (lv' := [(3, .int r14), (2, .int s0), (0, .ref (ad 55)), (1, .int x1)]) X dX9_not_102 rfl rfl (by decide) rfl ?_
  refine wg_iload_n X 1 dX9_not_103 rfl rfl ?_
  refine wg_if_eq X 115 dX9_not_104 (by decide) (fun c16 => ?_) (fun c16 => ?_)
  · have h := if_t c16 h
    refine wg_iload_n X 3 dX9_not_115 rfl rfl ?_
    refine wg_iload_n X 0 dX9_not_116 rfl rfl ?_
    refine wg_icmp_ne X 124 dX9_not_117 (by decide) (fun c17 => ?_) (fun c17 => ?_)
    · have h := if_f c17 h
      refine wg_iconst (v := 0) X dX9_not_124 (by decide) ?_
      exact wg_iret X ⟨(Prod.mk.inj (sm_inj h)).1, rfl, (Prod.mk.inj (sm_inj h)).2⟩ hr dX9_not_125
    · have h := if_t c17 h
      refine wg_iconst (v := 1) X dX9_not_120 (by decide) ?_
      refine wg_goto X 125 dX9_not_121 (by decide) ?_
      exact wg_iret X ⟨(Prod.mk.inj (sm_inj h)).1, rfl, (Prod.mk.inj (sm_inj h)).2⟩ hr dX9_not_125
  · have h := if_f c16 h
    refine wg_iload_n X 3 dX9_not_107 rfl rfl ?_
    refine wg_iload_n X 0 dX9_not_108 rfl rfl ?_
    refine wg_icmp_ge X 124 dX9_not_109 (by decide) (fun c18 => ?_) (fun c18 => ?_)
    · have h := if_t c18 h
      refine wg_iconst (v := 0) X dX9_not_124 (by decide) ?_
      exact wg_iret X ⟨(Prod.mk.inj (sm_inj h)).1, rfl, (Prod.mk.inj (sm_inj h)).2⟩ hr dX9_not_125
    · have h := if_f c18 h
      refine wg_goto X 120 dX9_not_112 (by decide) ?_
      refine wg_iconst (v := 1) X dX9_not_120 (by decide) ?_
      refine wg_goto X 125 dX9_not_121 (by decide) ?_
      exact wg_iret X ⟨(Prod.mk.inj (sm_inj h)).1, rfl, (Prod.mk.inj (sm_inj h)).2⟩ hr dX9_not_125
set_option maxHeartbeats 4000000 in
set_option maxRecDepth 100000 in
theorem J_X9_not_j77 {p : Program} {l : Launch} {e : Env} {s : State} {m : MethodId} {args : Array Value} {below : List Frame} {meth : Method} {c : Code} {E : wg_Ev} {ad : Nat → Nat} {S : wg_Sh} (X : wg_X p s m args meth c cX9_not 4 RX9 E) (hr : meth.sig.returnType = (some .int)) (hS : wg_SM S) (r0 : Int32) (D0 : wg_M) (C : wg_C) (N : Nat) (d : Nat) (rc : Nat → wg_M → Option (Int32 × wg_M)) (hrc : ∀ (k : Nat) (D : wg_M) (r0 : Int32) (D0 : wg_M), rc k D  = some (r0, D0) → R_X9g l E ad S C d k D  r0 D0)  (M : wg_M)  (x1 : Int32)   (h : f_X9_not_j77 N rc M  x1 = some (r0, D0)) : G_X9_not d p l e s m args below meth c E ad S r0 C D0 77 C M [(0, .ref (ad 55)), (1, .int x1)] [] := by
  unfold f_X9_not_j77 at h
  refine wg_aload_n X 0 dX9_not_77 rfl rfl ?_
  refine wg_getJ X cl9 (SMi hS 55 9 rfl) 26 (by decide) dX9_not_78 k_908 rfl ?_
  refine wg_ldc2 (v := 60) X dX9_not_81 k_1149 ?_
  refine wg_lcmp X dX9_not_84 ?_
  refine wg_if_ne X 92 dX9_not_85 (by decide) (fun c10 => ?_) (fun c10 => ?_)
  · have h := if_f c10 h
    refine wg_iconst (v := 0) X dX9_not_92 (by decide) ?_
    exact J_X9_not_j93 X hr hS r0 D0 C N d rc hrc  M  x1 (0 : Int32)   h
  · have h := if_t c10 h
    refine wg_iconst (v := 1) X dX9_not_88 (by decide) ?_
    refine wg_goto X 93 dX9_not_89 (by decide) ?_
    exact J_X9_not_j93 X hr hS r0 D0 C N d rc hrc  M  x1 (1 : Int32)   h
set_option maxHeartbeats 4000000 in
set_option maxRecDepth 100000 in
theorem c_X9_not (l : Launch) (E : wg_Ev) (ad : Nat → Nat) (S : wg_Sh) (hS : wg_SM S) (N : Nat) (d : Nat) (rc : Nat → wg_M → Option (Int32 × wg_M)) (C : wg_C) (hrc : ∀ (k : Nat) (D : wg_M) (r0 : Int32) (D0 : wg_M), rc k D  = some (r0, D0) → R_X9g l E ad S C d k D  r0 D0) (M : wg_M)   {r0 : Int32} {D0 : wg_M} (h : f_X9_not N rc M  = some (r0, D0)) : wg_Ci l yX9_not cX9_not 4 (some .int) (d + 9) (40 * (d + 1) + 300) E ad S C M [.ref (ad 55)] r0 C D0 := by
  refine wg_start (own := RX9) (by decide +kernel) rfl (Nat.le_of_ble_eq_true rfl) ?_
  intro p e s m below meth c X hr hnm
  refine wg_lv (lv' := [(0, .ref (ad 55))]) rfl ?_
  unfold f_X9_not at h
  refine wg_aload_n X 0 dX9_not_0 rfl rfl ?_
  refine wg_bipush (v := 110) X dX9_not_1 (by decide) ?_
  refine wg_bipush (v := 111) X dX9_not_3 (by decide) ?_
  refine wg_bipush (v := 116) X dX9_not_5 (by decide) ?_
  refine wg_iconst (v := 0) X dX9_not_7 (by decide) ?_
  refine wg_iconst (v := 0) X dX9_not_8 (by decide) ?_
  refine wg_iconst (v := 0) X dX9_not_9 (by decide) ?_
  refine wg_iconst (v := 0) X dX9_not_10 (by decide) ?_
  refine wg_iconst (v := 0) X dX9_not_11 (by decide) ?_
  obtain ⟨r2, h1, h⟩ := bd_some h
  refine wg_callVi (As := [.int (110 : Int32), .int (111 : Int32), .int (116 : Int32), .int (0 : Int32), .int (0 : Int32), .int (0 : Int32), .int (0 : Int32), .int (0 : Int32)]) (rest := []) X (c_X9_isWord l E ad S hS C M (110 : Int32) (111 : Int32) (116 : Int32) (0 : Int32) (0 : Int32) (0 : Int32) (0 : Int32) (0 : Int32)  h1) T_yX9_isWord k_1096 cl9 (SMi hS 55 9 rfl) dX9_not_12 rfl rfl (Nat.le_of_ble_eq_true rfl) ⟨show 2 + 1 ≤ d + 9 by omega, show 8 + (9 + 11) + 43 ≤ 40 * (d + 1) + 300 by omega⟩ ⟨Nat.zero_le _, Nat.zero_le _⟩ ?_
  refine wg_if_eq X 52 dX9_not_15 (by decide) (fun c3 => ?_) (fun c3 => ?_)
  · have h := if_t c3 h
    refine wg_aload_n X 0 dX9_not_52 rfl rfl ?_
    obtain ⟨r5, M6, h4, h⟩ := bd2_some h
    refine wg_callVi (As := []) (rest := []) X (show wg_Ci l yX9_added cX9_added 4 (some .int) (d + 8) (40 * d + 300) E ad S C M [.ref (ad 55)] r5 C M6 from hrc 2 M  r5 M6 h4) T_yX9_added k_1128 cl9 (SMi hS 55 9 rfl) dX9_not_53 rfl rfl (Nat.le_of_ble_eq_true rfl) ⟨show (d + 8) + 1 ≤ d + 9 by omega, show 8 + (4 + 11) + (40 * d + 300) ≤ 40 * (d + 1) + 300 by omega⟩ ⟨Nat.zero_le _, Nat.zero_le _⟩ ?_
    refine wg_istore_n (lv' := [(1, .int r5), (0, .ref (ad 55))]) X dX9_not_56 rfl rfl (by decide) rfl ?_
    refine wg_aload_n X 1 dX9_not_57 rfl rfl ?_
    refine wg_bipush (v := 60) X dX9_not_58 (by decide) ?_
    obtain ⟨r8, h7, h⟩ := bd_some h
    refine wg_callVi (As := [.int (60 : Int32)]) (rest := []) X (c_X9_isSign l E ad S hS C M6 (60 : Int32)  h7) T_yX9_isSign k_1140 cl9 (SMi hS 55 9 rfl) dX9_not_60 rfl rfl (Nat.le_of_ble_eq_true rfl) ⟨show 0 + 1 ≤ d + 9 by omega, show 8 + (2 + 11) + 0 ≤ 40 * (d + 1) + 300 by omega⟩ ⟨Nat.zero_le _, Nat.zero_le _⟩ ?_
    refine wg_if_ne X 77 dX9_not_63 (by decide) (fun c9 => ?_) (fun c9 => ?_)
    · have h := if_f c9 h
      refine wg_pick [1, 0] (lv' := [(0, .ref (ad 55)), (1, .int r5)]) rfl ?_
      exact J_X9_not_j77 X hr hS r0 D0 C N d rc hrc  M6  r5   h
    · have h := if_t c9 h
      refine wg_aload_n X 1 dX9_not_66 rfl rfl ?_
      refine wg_bipush (v := 61) X dX9_not_67 (by decide) ?_
      obtain ⟨r20, h19, h⟩ := bd_some h
      refine wg_callVi (As := [.int (61 : Int32)]) (rest := []) X (c_X9_isSign l E ad S hS C M6 (61 : Int32)  h19) T_yX9_isSign k_1140 cl9 (SMi hS 55 9 rfl) dX9_not_69 rfl rfl (Nat.le_of_ble_eq_true rfl) ⟨show 0 + 1 ≤ d + 9 by omega, show 8 + (2 + 11) + 0 ≤ 40 * (d + 1) + 300 by omega⟩ ⟨Nat.zero_le _, Nat.zero_le _⟩ ?_
      refine wg_if_ne X 77 dX9_not_72 (by decide) (fun c21 => ?_) (fun c21 => ?_)
      · have h := if_f c21 h
        refine wg_pick [1, 0] (lv' := [(0, .ref (ad 55)), (1, .int r5)]) rfl ?_
        exact J_X9_not_j77 X hr hS r0 D0 C N d rc hrc  M6  r5   h
      · have h := if_t c21 h
        refine wg_iload_n X 0 dX9_not_75 rfl rfl ?_
        exact wg_iret X ⟨(Prod.mk.inj (sm_inj h)).1, rfl, (Prod.mk.inj (sm_inj h)).2⟩ hr dX9_not_76
  · have h := if_f c3 h
    refine wg_aload_n X 0 dX9_not_18 rfl rfl ?_
    obtain ⟨r23, M24, h22, h⟩ := bd2_some h
    refine wg_callVi (As := []) (rest := []) X (c_X9_opens l E ad S hS N C M   h22) T_yX9_opens k_1124 cl9 (SMi hS 55 9 rfl) dX9_not_19 rfl rfl (Nat.le_of_ble_eq_true rfl) ⟨show 2 + 1 ≤ d + 9 by omega, show 8 + (1 + 11) + 47 ≤ 40 * (d + 1) + 300 by omega⟩ ⟨Nat.zero_le _, Nat.zero_le _⟩ ?_
    refine wg_if_ne X 27 dX9_not_22 (by decide) (fun c25 => ?_) (fun c25 => ?_)
    · have h := if_f c25 h
      refine wg_aload_n X 0 dX9_not_27 rfl rfl ?_
      obtain ⟨r27, M28, h26, h⟩ := bd2_some h
      refine wg_callVi (As := []) (rest := []) X (show wg_Ci l yX9_not cX9_not 4 (some .int) (d + 8) (40 * d + 300) E ad S C M24 [.ref (ad 55)] r27 C M28 from hrc 3 M24  r27 M28 h26) T_yX9_not k_1120 cl9 (SMi hS 55 9 rfl) dX9_not_28 rfl rfl (Nat.le_of_ble_eq_true rfl) ⟨show (d + 8) + 1 ≤ d + 9 by omega, show 8 + (4 + 11) + (40 * d + 300) ≤ 40 * (d + 1) + 300 by omega⟩ ⟨Nat.zero_le _, Nat.zero_le _⟩ ?_
      refine wg_istore_n (lv' := [(1, .int r27), (0, .ref (ad 55))]) X dX9_not_31 rfl rfl (by decide) rfl ?_
      refine wg_aload_n X 1 dX9_not_32 rfl rfl ?_
      refine wg_dup X dX9_not_33 rfl ?_
      refine wg_getM X cl9 (SMi hS 55 9 rfl) 27 (by decide) dX9_not_34 k_909 rfl ?_
      refine wg_iconst (v := 1) X dX9_not_37 (by decide) ?_
      refine wg_isub X dX9_not_38 ?_
      obtain ⟨M29, e30, h⟩ := lt_some h
      refine wg_putMe X cl9 (SMi hS 55 9 rfl) 27 (by decide) dX9_not_39 k_909 rfl rfl rfl rfl e30 ?_
      refine wg_iload_n X 0 dX9_not_42 rfl rfl ?_
      refine wg_if_ne X 50 dX9_not_43 (by decide) (fun c31 => ?_) (fun c31 => ?_)
      · have h := if_f c31 h
        refine wg_iconst (v := 0) X dX9_not_50 (by decide) ?_
        exact wg_iret X ⟨(Prod.mk.inj (sm_inj h)).1, rfl, (Prod.mk.inj (sm_inj h)).2⟩ hr dX9_not_51
      · have h := if_t c31 h
        refine wg_iconst (v := 1) X dX9_not_46 (by decide) ?_
        refine wg_goto X 51 dX9_not_47 (by decide) ?_
        exact wg_iret X ⟨(Prod.mk.inj (sm_inj h)).1, rfl, (Prod.mk.inj (sm_inj h)).2⟩ hr dX9_not_51
    · have h := if_t c25 h
      refine wg_iconst (v := 0) X dX9_not_25 (by decide) ?_
      exact wg_iret X ⟨(Prod.mk.inj (sm_inj h)).1, rfl, (Prod.mk.inj (sm_inj h)).2⟩ hr dX9_not_26
-- WindowsGiveModel.both()I (('c', 55),)
def f_X9_both_l5 (N : Nat) (rc : Nat → wg_M → Option (Int32 × wg_M))   (M : wg_M) (x1 : Int32) : Option ((wg_M × Int32) ⊕ (wg_M × Int32)) :=
  bd (f_X9_isWord M (97 : Int32) (110 : Int32) (100 : Int32) (0 : Int32) (0 : Int32) (0 : Int32) (0 : Int32) (0 : Int32)) fun r5 =>
  if r5 = 0 then (
    some (.inr (M, x1)))
  else (
    bd (f_X9_next N M ) fun M8 =>
    bd2 (rc 3 M8 ) fun r10 M11 =>
    if x1 = 0 then (
      some (.inl (M11, (0 : Int32))))
    else (
      if r10 = 0 then (
        some (.inl (M11, (0 : Int32))))
      else (
        some (.inl (M11, (1 : Int32))))))
def f_X9_both (N : Nat) (rc : Nat → wg_M → Option (Int32 × wg_M)) (M : wg_M)  : Option (Int32 × wg_M) :=
  bd2 (rc 3 M ) fun r2 M3 =>
  bd2 (lp (fun o => f_X9_both_l5 N rc   o.1 o.2) N (M3, r2)) fun M14 v15 =>
  some (v15, M14)
abbrev G_X9_both (d : Nat) (p : Program) (l : Launch) (e : Env) (s : State) (m : MethodId) (args : Array Value) (below : List Frame) (meth : Method) (c : Code) (E : wg_Ev) (ad : Nat → Nat) (S : wg_Sh) (r0 : Int32) (C0 : wg_C) (M0 : wg_M) (pc : Nat) (C : wg_C) (M : wg_M) (lv : List (Nat × Value)) (st : List Value) : Prop := wg_G p l e (wg_Rm (d + 9) (40 * (d + 1) + 300)) s m args below meth c (MQ below (wg_Qi E ad S r0 C0 M0) args s 0 0 (wg_A E)) 3 E ad S 0 0 pc C M lv st
set_option maxHeartbeats 4000000 in
set_option maxRecDepth 100000 in
theorem L_X9_both_l5 {p : Program} {l : Launch} {e : Env} {s : State} {m : MethodId} {args : Array Value} {below : List Frame} {meth : Method} {c : Code} {E : wg_Ev} {ad : Nat → Nat} {S : wg_Sh} (X : wg_X p s m args meth c cX9_both 3 RX9 E) (hr : meth.sig.returnType = (some .int)) (hS : wg_SM S) (r0 : Int32) (D0 : wg_M) (C : wg_C) (N : Nat) (d : Nat) (rc : Nat → wg_M → Option (Int32 × wg_M)) (hrc : ∀ (k : Nat) (D : wg_M) (r0 : Int32) (D0 : wg_M), rc k D  = some (r0, D0) → R_X9g l E ad S C d k D  r0 D0)     : ∀ (n : Nat) (M : wg_M) (x1 : Int32) (o : (wg_M × Int32)), lp (fun o => f_X9_both_l5 N rc   o.1 o.2) n (M, x1) = some o → (∀ (Dy : wg_M) (y1 : Int32), o = (Dy, y1) → G_X9_both d p l e s m args below meth c E ad S r0 C D0 49 C Dy [(0, .ref (ad 55)), (1, .int y1)] []) → G_X9_both d p l e s m args below meth c E ad S r0 C D0 5 C M [(0, .ref (ad 55)), (1, .int x1)] [] := by
  intro n
  induction n with
  | zero => exact fun _ _ o h => (lp_zero h).elim
  | succ n ih =>
    intro M x1 o h K
    obtain ⟨o1, hb, h2⟩ := lp_some h
    replace hb : f_X9_both_l5 N rc   M x1 = some o1 := hb
    clear h
    have Kc : ∀ (Dy : wg_M) (y1 : Int32), o1 = Sum.inl (Dy, y1) → G_X9_both d p l e s m args below meth c E ad S r0 C D0 5 C Dy [(0, .ref (ad 55)), (1, .int y1)] [] := fun Dy y1 e1 => by
      subst e1
      exact ih Dy y1 o h2 K
    have Ke : ∀ (Dy : wg_M) (y1 : Int32), o1 = Sum.inr ((Dy, y1)) → G_X9_both d p l e s m args below meth c E ad S r0 C D0 49 C Dy [(0, .ref (ad 55)), (1, .int y1)] [] := fun Dy y1 e1 => by
      subst e1
      exact K Dy y1 (sm_inj (α := (wg_M × Int32)) h2).symm
    clear ih K h2
    unfold f_X9_both_l5 at hb
    have h := hb
    clear hb
    refine wg_aload_n X 0 dX9_both_5 rfl rfl ?_
    refine wg_bipush (v := 97) X dX9_both_6 (by decide) ?_
    refine wg_bipush (v := 110) X dX9_both_8 (by decide) ?_
    refine wg_bipush (v := 100) X dX9_both_10 (by decide) ?_
    refine wg_iconst (v := 0) X dX9_both_12 (by decide) ?_
    refine wg_iconst (v := 0) X dX9_both_13 (by decide) ?_
    refine wg_iconst (v := 0) X dX9_both_14 (by decide) ?_
    refine wg_iconst (v := 0) X dX9_both_15 (by decide) ?_
    refine wg_iconst (v := 0) X dX9_both_16 (by decide) ?_
    obtain ⟨r5, h4, h⟩ := bd_some h
    refine wg_callVi (As := [.int (97 : Int32), .int (110 : Int32), .int (100 : Int32), .int (0 : Int32), .int (0 : Int32), .int (0 : Int32), .int (0 : Int32), .int (0 : Int32)]) (rest := []) X (c_X9_isWord l E ad S hS C M (97 : Int32) (110 : Int32) (100 : Int32) (0 : Int32) (0 : Int32) (0 : Int32) (0 : Int32) (0 : Int32)  h4) T_yX9_isWord k_1096 cl9 (SMi hS 55 9 rfl) dX9_both_17 rfl rfl (Nat.le_of_ble_eq_true rfl) ⟨show 2 + 1 ≤ d + 9 by omega, show 8 + (9 + 11) + 43 ≤ 40 * (d + 1) + 300 by omega⟩ ⟨Nat.zero_le _, Nat.zero_le _⟩ ?_
    refine wg_if_eq X 49 dX9_both_20 (by decide) (fun c6 => ?_) (fun c6 => ?_)
    · have h := if_t c6 h
      exact Ke M x1 (sm_inj h).symm
    · have h := if_f c6 h
      refine wg_aload_n X 0 dX9_both_23 rfl rfl ?_
      obtain ⟨M8, h7, h⟩ := bd_some h
      refine wg_callVv (As := []) (rest := []) X (c_X9_next l E ad S hS N C M   h7) T_yX9_next k_1083 cl9 (SMi hS 55 9 rfl) dX9_both_24 rfl rfl (Nat.le_of_ble_eq_true rfl) ⟨show 1 + 1 ≤ d + 9 by omega, show 8 + (3 + 11) + 25 ≤ 40 * (d + 1) + 300 by omega⟩ ⟨Nat.zero_le _, Nat.zero_le _⟩ ?_
      refine wg_aload_n X 0 dX9_both_27 rfl rfl ?_
      obtain ⟨r10, M11, h9, h⟩ := bd2_some h
      refine wg_callVi (As := []) (rest := []) X (show wg_Ci l yX9_not cX9_not 4 (some .int) (d + 8) (40 * d + 300) E ad S C M8 [.ref (ad 55)] r10 C M11 from hrc 3 M8  r10 M11 h9) T_yX9_not k_1120 cl9 (SMi hS 55 9 rfl) dX9_both_28 rfl rfl (Nat.le_of_ble_eq_true rfl) ⟨show (d + 8) + 1 ≤ d + 9 by omega, show 8 + (4 + 11) + (40 * d + 300) ≤ 40 * (d + 1) + 300 by omega⟩ ⟨Nat.zero_le _, Nat.zero_le _⟩ ?_
      refine wg_istore_n (lv' := [(2, .int r10), (0, .ref (ad 55)), (1, .int x1)]) X dX9_both_31 rfl rfl (by decide) rfl ?_
      refine wg_iload_n X 2 dX9_both_32 rfl rfl ?_
      refine wg_if_eq X 44 dX9_both_33 (by decide) (fun c12 => ?_) (fun c12 => ?_)
      · have h := if_t c12 h
        refine wg_iconst (v := 0) X dX9_both_44 (by decide) ?_
        refine wg_istore_n (lv' := [(1, .int (0 : Int32)), (2, .int r10), (0, .ref (ad 55))]) X dX9_both_45 rfl rfl (by decide) rfl ?_
        refine wg_goto X 5 dX9_both_46 (by decide) ?_
        refine wg_pick [2, 0] (lv' := [(0, .ref (ad 55)), (1, .int (0 : Int32))]) rfl ?_
        exact Kc M11 (0 : Int32) (sm_inj h).symm
      · have h := if_f c12 h
        refine wg_iload_n X 0 dX9_both_36 rfl rfl ?_
        refine wg_if_eq X 44 dX9_both_37 (by decide) (fun c13 => ?_) (fun c13 => ?_)
        · have h := if_t c13 h
          refine wg_iconst (v := 0) X dX9_both_44 (by decide) ?_
          refine wg_istore_n (lv' := [(1, .int (0 : Int32)), (2, .int r10), (0, .ref (ad 55))]) X dX9_both_45 rfl rfl (by decide) rfl ?_
          refine wg_goto X 5 dX9_both_46 (by decide) ?_
          refine wg_pick [2, 0] (lv' := [(0, .ref (ad 55)), (1, .int (0 : Int32))]) rfl ?_
          exact Kc M11 (0 : Int32) (sm_inj h).symm
        · have h := if_f c13 h
          refine wg_iconst (v := 1) X dX9_both_40 (by decide) ?_
          refine wg_goto X 45 dX9_both_41 (by decide) ?_
          refine wg_istore_n (lv' := [(1, .int (1 : Int32)), (2, .int r10), (0, .ref (ad 55))]) X dX9_both_45 rfl rfl (by decide) rfl ?_
          refine wg_goto X 5 dX9_both_46 (by decide) ?_
          refine wg_pick [2, 0] (lv' := [(0, .ref (ad 55)), (1, .int (1 : Int32))]) rfl ?_
          exact Kc M11 (1 : Int32) (sm_inj h).symm
set_option maxHeartbeats 4000000 in
set_option maxRecDepth 100000 in
theorem c_X9_both (l : Launch) (E : wg_Ev) (ad : Nat → Nat) (S : wg_Sh) (hS : wg_SM S) (N : Nat) (d : Nat) (rc : Nat → wg_M → Option (Int32 × wg_M)) (C : wg_C) (hrc : ∀ (k : Nat) (D : wg_M) (r0 : Int32) (D0 : wg_M), rc k D  = some (r0, D0) → R_X9g l E ad S C d k D  r0 D0) (M : wg_M)   {r0 : Int32} {D0 : wg_M} (h : f_X9_both N rc M  = some (r0, D0)) : wg_Ci l yX9_both cX9_both 3 (some .int) (d + 9) (40 * (d + 1) + 300) E ad S C M [.ref (ad 55)] r0 C D0 := by
  refine wg_start (own := RX9) (by decide +kernel) rfl (Nat.le_of_ble_eq_true rfl) ?_
  intro p e s m below meth c X hr hnm
  refine wg_lv (lv' := [(0, .ref (ad 55))]) rfl ?_
  unfold f_X9_both at h
  refine wg_aload_n X 0 dX9_both_0 rfl rfl ?_
  obtain ⟨r2, M3, h1, h⟩ := bd2_some h
  refine wg_callVi (As := []) (rest := []) X (show wg_Ci l yX9_not cX9_not 4 (some .int) (d + 8) (40 * d + 300) E ad S C M [.ref (ad 55)] r2 C M3 from hrc 3 M  r2 M3 h1) T_yX9_not k_1120 cl9 (SMi hS 55 9 rfl) dX9_both_1 rfl rfl (Nat.le_of_ble_eq_true rfl) ⟨show (d + 8) + 1 ≤ d + 9 by omega, show 8 + (4 + 11) + (40 * d + 300) ≤ 40 * (d + 1) + 300 by omega⟩ ⟨Nat.zero_le _, Nat.zero_le _⟩ ?_
  refine wg_istore_n (lv' := [(1, .int r2), (0, .ref (ad 55))]) X dX9_both_4 rfl rfl (by decide) rfl ?_
  obtain ⟨o16, h17, h⟩ := bd2_o h
  refine wg_pick [1, 0] (lv' := [(0, .ref (ad 55)), (1, .int r2)]) rfl ?_
  refine L_X9_both_l5 X hr hS r0 D0 C N d rc hrc     N M3 r2 o16 h17 (fun M14 v15 e19 => ?_)
  · subst e19
    replace h := bd2_in h
    refine wg_iload_n X 1 dX9_both_49 rfl rfl ?_
    exact wg_iret X ⟨(Prod.mk.inj (sm_inj h)).1, rfl, (Prod.mk.inj (sm_inj h)).2⟩ hr dX9_both_50
-- WindowsGiveModel.either()I (('c', 55),)
def f_X9_either_l5 (N : Nat) (rc : Nat → wg_M → Option (Int32 × wg_M))   (M : wg_M) (x1 : Int32) : Option ((wg_M × Int32) ⊕ (wg_M × Int32)) :=
  bd (f_X9_isWord M (111 : Int32) (114 : Int32) (0 : Int32) (0 : Int32) (0 : Int32) (0 : Int32) (0 : Int32) (0 : Int32)) fun r5 =>
  if r5 = 0 then (
    some (.inr (M, x1)))
  else (
    bd (f_X9_next N M ) fun M8 =>
    bd2 (rc 4 M8 ) fun r10 M11 =>
    if x1 = 0 then (
      if r10 = 0 then (
        some (.inl (M11, (0 : Int32))))
      else (
        some (.inl (M11, (1 : Int32)))))
    else (
      some (.inl (M11, (1 : Int32)))))
def f_X9_either (N : Nat) (rc : Nat → wg_M → Option (Int32 × wg_M)) (M : wg_M)  : Option (Int32 × wg_M) :=
  bd2 (rc 4 M ) fun r2 M3 =>
  bd2 (lp (fun o => f_X9_either_l5 N rc   o.1 o.2) N (M3, r2)) fun M14 v15 =>
  some (v15, M14)
abbrev G_X9_either (d : Nat) (p : Program) (l : Launch) (e : Env) (s : State) (m : MethodId) (args : Array Value) (below : List Frame) (meth : Method) (c : Code) (E : wg_Ev) (ad : Nat → Nat) (S : wg_Sh) (r0 : Int32) (C0 : wg_C) (M0 : wg_M) (pc : Nat) (C : wg_C) (M : wg_M) (lv : List (Nat × Value)) (st : List Value) : Prop := wg_G p l e (wg_Rm (d + 9) (40 * (d + 1) + 300)) s m args below meth c (MQ below (wg_Qi E ad S r0 C0 M0) args s 0 0 (wg_A E)) 3 E ad S 0 0 pc C M lv st
set_option maxHeartbeats 4000000 in
set_option maxRecDepth 100000 in
theorem L_X9_either_l5 {p : Program} {l : Launch} {e : Env} {s : State} {m : MethodId} {args : Array Value} {below : List Frame} {meth : Method} {c : Code} {E : wg_Ev} {ad : Nat → Nat} {S : wg_Sh} (X : wg_X p s m args meth c cX9_either 3 RX9 E) (hr : meth.sig.returnType = (some .int)) (hS : wg_SM S) (r0 : Int32) (D0 : wg_M) (C : wg_C) (N : Nat) (d : Nat) (rc : Nat → wg_M → Option (Int32 × wg_M)) (hrc : ∀ (k : Nat) (D : wg_M) (r0 : Int32) (D0 : wg_M), rc k D  = some (r0, D0) → R_X9g l E ad S C d k D  r0 D0)     : ∀ (n : Nat) (M : wg_M) (x1 : Int32) (o : (wg_M × Int32)), lp (fun o => f_X9_either_l5 N rc   o.1 o.2) n (M, x1) = some o → (∀ (Dy : wg_M) (y1 : Int32), o = (Dy, y1) → G_X9_either d p l e s m args below meth c E ad S r0 C D0 48 C Dy [(0, .ref (ad 55)), (1, .int y1)] []) → G_X9_either d p l e s m args below meth c E ad S r0 C D0 5 C M [(0, .ref (ad 55)), (1, .int x1)] [] := by
  intro n
  induction n with
  | zero => exact fun _ _ o h => (lp_zero h).elim
  | succ n ih =>
    intro M x1 o h K
    obtain ⟨o1, hb, h2⟩ := lp_some h
    replace hb : f_X9_either_l5 N rc   M x1 = some o1 := hb
    clear h
    have Kc : ∀ (Dy : wg_M) (y1 : Int32), o1 = Sum.inl (Dy, y1) → G_X9_either d p l e s m args below meth c E ad S r0 C D0 5 C Dy [(0, .ref (ad 55)), (1, .int y1)] [] := fun Dy y1 e1 => by
      subst e1
      exact ih Dy y1 o h2 K
    have Ke : ∀ (Dy : wg_M) (y1 : Int32), o1 = Sum.inr ((Dy, y1)) → G_X9_either d p l e s m args below meth c E ad S r0 C D0 48 C Dy [(0, .ref (ad 55)), (1, .int y1)] [] := fun Dy y1 e1 => by
      subst e1
      exact K Dy y1 (sm_inj (α := (wg_M × Int32)) h2).symm
    clear ih K h2
    unfold f_X9_either_l5 at hb
    have h := hb
    clear hb
    refine wg_aload_n X 0 dX9_either_5 rfl rfl ?_
    refine wg_bipush (v := 111) X dX9_either_6 (by decide) ?_
    refine wg_bipush (v := 114) X dX9_either_8 (by decide) ?_
    refine wg_iconst (v := 0) X dX9_either_10 (by decide) ?_
    refine wg_iconst (v := 0) X dX9_either_11 (by decide) ?_
    refine wg_iconst (v := 0) X dX9_either_12 (by decide) ?_
    refine wg_iconst (v := 0) X dX9_either_13 (by decide) ?_
    refine wg_iconst (v := 0) X dX9_either_14 (by decide) ?_
    refine wg_iconst (v := 0) X dX9_either_15 (by decide) ?_
    obtain ⟨r5, h4, h⟩ := bd_some h
    refine wg_callVi (As := [.int (111 : Int32), .int (114 : Int32), .int (0 : Int32), .int (0 : Int32), .int (0 : Int32), .int (0 : Int32), .int (0 : Int32), .int (0 : Int32)]) (rest := []) X (c_X9_isWord l E ad S hS C M (111 : Int32) (114 : Int32) (0 : Int32) (0 : Int32) (0 : Int32) (0 : Int32) (0 : Int32) (0 : Int32)  h4) T_yX9_isWord k_1096 cl9 (SMi hS 55 9 rfl) dX9_either_16 rfl rfl (Nat.le_of_ble_eq_true rfl) ⟨show 2 + 1 ≤ d + 9 by omega, show 8 + (9 + 11) + 43 ≤ 40 * (d + 1) + 300 by omega⟩ ⟨Nat.zero_le _, Nat.zero_le _⟩ ?_
    refine wg_if_eq X 48 dX9_either_19 (by decide) (fun c6 => ?_) (fun c6 => ?_)
    · have h := if_t c6 h
      exact Ke M x1 (sm_inj h).symm
    · have h := if_f c6 h
      refine wg_aload_n X 0 dX9_either_22 rfl rfl ?_
      obtain ⟨M8, h7, h⟩ := bd_some h
      refine wg_callVv (As := []) (rest := []) X (c_X9_next l E ad S hS N C M   h7) T_yX9_next k_1083 cl9 (SMi hS 55 9 rfl) dX9_either_23 rfl rfl (Nat.le_of_ble_eq_true rfl) ⟨show 1 + 1 ≤ d + 9 by omega, show 8 + (3 + 11) + 25 ≤ 40 * (d + 1) + 300 by omega⟩ ⟨Nat.zero_le _, Nat.zero_le _⟩ ?_
      refine wg_aload_n X 0 dX9_either_26 rfl rfl ?_
      obtain ⟨r10, M11, h9, h⟩ := bd2_some h
      refine wg_callVi (As := []) (rest := []) X (show wg_Ci l yX9_both cX9_both 3 (some .int) (d + 8) (40 * d + 300) E ad S C M8 [.ref (ad 55)] r10 C M11 from hrc 4 M8  r10 M11 h9) T_yX9_both k_1116 cl9 (SMi hS 55 9 rfl) dX9_either_27 rfl rfl (Nat.le_of_ble_eq_true rfl) ⟨show (d + 8) + 1 ≤ d + 9 by omega, show 8 + (3 + 11) + (40 * d + 300) ≤ 40 * (d + 1) + 300 by omega⟩ ⟨Nat.zero_le _, Nat.zero_le _⟩ ?_
      refine wg_istore_n (lv' := [(2, .int r10), (0, .ref (ad 55)), (1, .int x1)]) X dX9_either_30 rfl rfl (by decide) rfl ?_
      refine wg_iload_n X 2 dX9_either_31 rfl rfl ?_
      refine wg_if_ne X 39 dX9_either_32 (by decide) (fun c12 => ?_) (fun c12 => ?_)
      · have h := if_f c12 h
        refine wg_iconst (v := 1) X dX9_either_39 (by decide) ?_
        refine wg_goto X 44 dX9_either_40 (by decide) ?_
        refine wg_istore_n (lv' := [(1, .int (1 : Int32)), (2, .int r10), (0, .ref (ad 55))]) X dX9_either_44 rfl rfl (by decide) rfl ?_
        refine wg_goto X 5 dX9_either_45 (by decide) ?_
        refine wg_pick [2, 0] (lv' := [(0, .ref (ad 55)), (1, .int (1 : Int32))]) rfl ?_
        exact Kc M11 (1 : Int32) (sm_inj h).symm
      · have h := if_t c12 h
        refine wg_iload_n X 0 dX9_either_35 rfl rfl ?_
        refine wg_if_eq X 43 dX9_either_36 (by decide) (fun c13 => ?_) (fun c13 => ?_)
        · have h := if_t c13 h
          refine wg_iconst (v := 0) X dX9_either_43 (by decide) ?_
          refine wg_istore_n (lv' := [(1, .int (0 : Int32)), (2, .int r10), (0, .ref (ad 55))]) X dX9_either_44 rfl rfl (by decide) rfl ?_
          refine wg_goto X 5 dX9_either_45 (by decide) ?_
          refine wg_pick [2, 0] (lv' := [(0, .ref (ad 55)), (1, .int (0 : Int32))]) rfl ?_
          exact Kc M11 (0 : Int32) (sm_inj h).symm
        · have h := if_f c13 h
          refine wg_iconst (v := 1) X dX9_either_39 (by decide) ?_
          refine wg_goto X 44 dX9_either_40 (by decide) ?_
          refine wg_istore_n (lv' := [(1, .int (1 : Int32)), (2, .int r10), (0, .ref (ad 55))]) X dX9_either_44 rfl rfl (by decide) rfl ?_
          refine wg_goto X 5 dX9_either_45 (by decide) ?_
          refine wg_pick [2, 0] (lv' := [(0, .ref (ad 55)), (1, .int (1 : Int32))]) rfl ?_
          exact Kc M11 (1 : Int32) (sm_inj h).symm
set_option maxHeartbeats 4000000 in
set_option maxRecDepth 100000 in
theorem c_X9_either (l : Launch) (E : wg_Ev) (ad : Nat → Nat) (S : wg_Sh) (hS : wg_SM S) (N : Nat) (d : Nat) (rc : Nat → wg_M → Option (Int32 × wg_M)) (C : wg_C) (hrc : ∀ (k : Nat) (D : wg_M) (r0 : Int32) (D0 : wg_M), rc k D  = some (r0, D0) → R_X9g l E ad S C d k D  r0 D0) (M : wg_M)   {r0 : Int32} {D0 : wg_M} (h : f_X9_either N rc M  = some (r0, D0)) : wg_Ci l yX9_either cX9_either 3 (some .int) (d + 9) (40 * (d + 1) + 300) E ad S C M [.ref (ad 55)] r0 C D0 := by
  refine wg_start (own := RX9) (by decide +kernel) rfl (Nat.le_of_ble_eq_true rfl) ?_
  intro p e s m below meth c X hr hnm
  refine wg_lv (lv' := [(0, .ref (ad 55))]) rfl ?_
  unfold f_X9_either at h
  refine wg_aload_n X 0 dX9_either_0 rfl rfl ?_
  obtain ⟨r2, M3, h1, h⟩ := bd2_some h
  refine wg_callVi (As := []) (rest := []) X (show wg_Ci l yX9_both cX9_both 3 (some .int) (d + 8) (40 * d + 300) E ad S C M [.ref (ad 55)] r2 C M3 from hrc 4 M  r2 M3 h1) T_yX9_both k_1116 cl9 (SMi hS 55 9 rfl) dX9_either_1 rfl rfl (Nat.le_of_ble_eq_true rfl) ⟨show (d + 8) + 1 ≤ d + 9 by omega, show 8 + (3 + 11) + (40 * d + 300) ≤ 40 * (d + 1) + 300 by omega⟩ ⟨Nat.zero_le _, Nat.zero_le _⟩ ?_
  refine wg_istore_n (lv' := [(1, .int r2), (0, .ref (ad 55))]) X dX9_either_4 rfl rfl (by decide) rfl ?_
  obtain ⟨o16, h17, h⟩ := bd2_o h
  refine wg_pick [1, 0] (lv' := [(0, .ref (ad 55)), (1, .int r2)]) rfl ?_
  refine L_X9_either_l5 X hr hS r0 D0 C N d rc hrc     N M3 r2 o16 h17 (fun M14 v15 e19 => ?_)
  · subst e19
    replace h := bd2_in h
    refine wg_iload_n X 1 dX9_either_48 rfl rfl ?_
    exact wg_iret X ⟨(Prod.mk.inj (sm_inj h)).1, rfl, (Prod.mk.inj (sm_inj h)).2⟩ hr dX9_either_49
def f_X9g (N : Nat) : Nat → Nat → wg_M → Option (Int32 × wg_M)
  | 0 => fun k D  => none
  | d + 1 => fun k D  => if k = 0 then f_X9_atom N (f_X9g N d) D  else if k = 1 then f_X9_term N (f_X9g N d) D  else if k = 2 then f_X9_added N (f_X9g N d) D  else if k = 3 then f_X9_not N (f_X9g N d) D  else if k = 4 then f_X9_both N (f_X9g N d) D  else if k = 5 then f_X9_either N (f_X9g N d) D  else none
set_option maxHeartbeats 4000000 in
set_option maxRecDepth 100000 in
theorem c_X9g (l : Launch) (E : wg_Ev) (ad : Nat → Nat) (S : wg_Sh) (hS : wg_SM S) (N : Nat) (C : wg_C) : ∀ (d k : Nat) (D : wg_M) (r0 : Int32) (D0 : wg_M), f_X9g N d k D  = some (r0, D0) → R_X9g l E ad S C d k D  r0 D0 := by
  intro d
  induction d with
  | zero => intro k D  r0 D0 h; cases h
  | succ d ih =>
    intro k D  r0 D0 h
    replace h : (if k = 0 then f_X9_atom N (f_X9g N d) D  else if k = 1 then f_X9_term N (f_X9g N d) D  else if k = 2 then f_X9_added N (f_X9g N d) D  else if k = 3 then f_X9_not N (f_X9g N d) D  else if k = 4 then f_X9_both N (f_X9g N d) D  else if k = 5 then f_X9_either N (f_X9g N d) D  else none) = some (r0, D0) := h
    by_cases k0 : k = 0
    · subst k0
      have h := if_t rfl h
      exact c_X9_atom l E ad S hS N d (f_X9g N d) C (fun k D  r0 D0 h => ih k D  r0 D0 h) D  h
    have h := if_f k0 h
    by_cases k1 : k = 1
    · subst k1
      have h := if_t rfl h
      exact c_X9_term l E ad S hS N d (f_X9g N d) C (fun k D  r0 D0 h => ih k D  r0 D0 h) D  h
    have h := if_f k1 h
    by_cases k2 : k = 2
    · subst k2
      have h := if_t rfl h
      exact c_X9_added l E ad S hS N d (f_X9g N d) C (fun k D  r0 D0 h => ih k D  r0 D0 h) D  h
    have h := if_f k2 h
    by_cases k3 : k = 3
    · subst k3
      have h := if_t rfl h
      exact c_X9_not l E ad S hS N d (f_X9g N d) C (fun k D  r0 D0 h => ih k D  r0 D0 h) D  h
    have h := if_f k3 h
    by_cases k4 : k = 4
    · subst k4
      have h := if_t rfl h
      exact c_X9_both l E ad S hS N d (f_X9g N d) C (fun k D  r0 D0 h => ih k D  r0 D0 h) D  h
    have h := if_f k4 h
    by_cases k5 : k = 5
    · subst k5
      have h := if_t rfl h
      exact c_X9_either l E ad S hS N d (f_X9g N d) C (fun k D  r0 D0 h => ih k D  r0 D0 h) D  h
    have h := if_f k5 h
    cases h
def f_X9_atom_e (N : Nat) (D : wg_M) : Option (Int32 × wg_M) := f_X9g N 64 0 D 
theorem c_X9_atom_e (l : Launch) (E : wg_Ev) (ad : Nat → Nat) (S : wg_Sh) (hS : wg_SM S) (N : Nat) (C : wg_C) (M : wg_M) {r0 : Int32} {D0 : wg_M} (h : f_X9_atom_e N M  = some (r0, D0)) : wg_Ci l yX9_atom cX9_atom 2 (some .int) 72 2860 E ad S C M [.ref (ad 55)] r0 C D0 := c_X9g l E ad S hS N C 64 0 M  r0 D0 h
def f_X9_term_e (N : Nat) (D : wg_M) : Option (Int32 × wg_M) := f_X9g N 64 1 D 
theorem c_X9_term_e (l : Launch) (E : wg_Ev) (ad : Nat → Nat) (S : wg_Sh) (hS : wg_SM S) (N : Nat) (C : wg_C) (M : wg_M) {r0 : Int32} {D0 : wg_M} (h : f_X9_term_e N M  = some (r0, D0)) : wg_Ci l yX9_term cX9_term 2 (some .int) 72 2860 E ad S C M [.ref (ad 55)] r0 C D0 := c_X9g l E ad S hS N C 64 1 M  r0 D0 h
def f_X9_added_e (N : Nat) (D : wg_M) : Option (Int32 × wg_M) := f_X9g N 64 2 D 
theorem c_X9_added_e (l : Launch) (E : wg_Ev) (ad : Nat → Nat) (S : wg_Sh) (hS : wg_SM S) (N : Nat) (C : wg_C) (M : wg_M) {r0 : Int32} {D0 : wg_M} (h : f_X9_added_e N M  = some (r0, D0)) : wg_Ci l yX9_added cX9_added 4 (some .int) 72 2860 E ad S C M [.ref (ad 55)] r0 C D0 := c_X9g l E ad S hS N C 64 2 M  r0 D0 h
def f_X9_not_e (N : Nat) (D : wg_M) : Option (Int32 × wg_M) := f_X9g N 64 3 D 
theorem c_X9_not_e (l : Launch) (E : wg_Ev) (ad : Nat → Nat) (S : wg_Sh) (hS : wg_SM S) (N : Nat) (C : wg_C) (M : wg_M) {r0 : Int32} {D0 : wg_M} (h : f_X9_not_e N M  = some (r0, D0)) : wg_Ci l yX9_not cX9_not 4 (some .int) 72 2860 E ad S C M [.ref (ad 55)] r0 C D0 := c_X9g l E ad S hS N C 64 3 M  r0 D0 h
def f_X9_both_e (N : Nat) (D : wg_M) : Option (Int32 × wg_M) := f_X9g N 64 4 D 
theorem c_X9_both_e (l : Launch) (E : wg_Ev) (ad : Nat → Nat) (S : wg_Sh) (hS : wg_SM S) (N : Nat) (C : wg_C) (M : wg_M) {r0 : Int32} {D0 : wg_M} (h : f_X9_both_e N M  = some (r0, D0)) : wg_Ci l yX9_both cX9_both 3 (some .int) 72 2860 E ad S C M [.ref (ad 55)] r0 C D0 := c_X9g l E ad S hS N C 64 4 M  r0 D0 h
def f_X9_either_e (N : Nat) (D : wg_M) : Option (Int32 × wg_M) := f_X9g N 64 5 D 
theorem c_X9_either_e (l : Launch) (E : wg_Ev) (ad : Nat → Nat) (S : wg_Sh) (hS : wg_SM S) (N : Nat) (C : wg_C) (M : wg_M) {r0 : Int32} {D0 : wg_M} (h : f_X9_either_e N M  = some (r0, D0)) : wg_Ci l yX9_either cX9_either 3 (some .int) 72 2860 E ad S C M [.ref (ad 55)] r0 C D0 := c_X9g l E ad S hS N C 64 5 M  r0 D0 h
-- WindowsGiveModel.part(Z)I (('c', 55), 'i')
def f_X9_part_j48 (N : Nat) (M : wg_M)  (x2 : Int32) : Option (Int32 × wg_M) :=
  if (M.1 55 28) = 0 then (
    bd (f_X9_next N M ) fun M12 =>
    some (x2, M12))
  else (
    some (x2, M))
def f_X9_part_j34 (N : Nat) (M : wg_M)  (s0 : Int32) : Option (Int32 × wg_M) :=
  bd (f_X9_isSign M (59 : Int32)) fun r8 =>
  if r8 = 0 then (
    bd (f_X9_fail M ) fun M14 =>
    f_X9_part_j48 N M14  s0)
  else (
    f_X9_part_j48 N M  s0)
def f_X9_part_j19 (N : Nat) (M : wg_M)   : Option (Int32 × wg_M) :=
  if (M.1 55 28) = 0 then (
    bd2 (f_X9_either_e N M ) fun r5 M6 =>
    f_X9_part_j34 N M6  r5)
  else (
    f_X9_part_j34 N M  (0 : Int32))
def f_X9_part_j8 (N : Nat) (M : wg_M)   : Option (Int32 × wg_M) :=
  if (M.1 55 28) = 0 then (
    bd (f_X9_next N M ) fun M16 =>
    f_X9_part_j19 N M16  )
  else (
    f_X9_part_j19 N M  )
def f_X9_part (N : Nat) (M : wg_M) (p1 : Int32) : Option (Int32 × wg_M) :=
  if p1 = 0 then (
    bd (f_X9_fail M ) fun M18 =>
    f_X9_part_j8 N M18  )
  else (
    f_X9_part_j8 N M  )
abbrev G_X9_part (p : Program) (l : Launch) (e : Env) (s : State) (m : MethodId) (args : Array Value) (below : List Frame) (meth : Method) (c : Code) (E : wg_Ev) (ad : Nat → Nat) (S : wg_Sh) (r0 : Int32) (C0 : wg_C) (M0 : wg_M) (pc : Nat) (C : wg_C) (M : wg_M) (lv : List (Nat × Value)) (st : List Value) : Prop := wg_G p l e (wg_Rm 73 2882) s m args below meth c (MQ below (wg_Qi E ad S r0 C0 M0) args s 0 0 (wg_A E)) 3 E ad S 0 0 pc C M lv st
set_option maxHeartbeats 4000000 in
set_option maxRecDepth 100000 in
theorem J_X9_part_j48 {p : Program} {l : Launch} {e : Env} {s : State} {m : MethodId} {args : Array Value} {below : List Frame} {meth : Method} {c : Code} {E : wg_Ev} {ad : Nat → Nat} {S : wg_Sh} (X : wg_X p s m args meth c cX9_part 3 RX9 E) (hr : meth.sig.returnType = (some .int)) (hS : wg_SM S) (r0 : Int32) (D0 : wg_M) (C : wg_C) (N : Nat)  (M : wg_M)  (x2 : Int32)   (h : f_X9_part_j48 N M  x2 = some (r0, D0)) : G_X9_part p l e s m args below meth c E ad S r0 C D0 48 C M [(0, .ref (ad 55)), (2, .int x2)] [] := by
  unfold f_X9_part_j48 at h
  refine wg_aload_n X 0 dX9_part_48 rfl rfl ?_
  refine wg_getM X cl9 (SMi hS 55 9 rfl) 28 (by decide) dX9_part_49 k_910 rfl ?_
  refine wg_if_ne X 59 dX9_part_52 (by decide) (fun c10 => ?_) (fun c10 => ?_)
  · have h := if_f c10 h
    refine wg_iload_n X 1 dX9_part_59 rfl rfl ?_
    exact wg_iret X ⟨(Prod.mk.inj (sm_inj h)).1, rfl, (Prod.mk.inj (sm_inj h)).2⟩ hr dX9_part_60
  · have h := if_t c10 h
    refine wg_aload_n X 0 dX9_part_55 rfl rfl ?_
    obtain ⟨M12, h11, h⟩ := bd_some h
    refine wg_callVv (As := []) (rest := []) X (c_X9_next l E ad S hS N C M   h11) T_yX9_next k_1083 cl9 (SMi hS 55 9 rfl) dX9_part_56 rfl rfl (Nat.le_of_ble_eq_true rfl) ⟨Nat.le_of_ble_eq_true rfl, Nat.le_of_ble_eq_true rfl⟩ ⟨Nat.zero_le _, Nat.zero_le _⟩ ?_
    refine wg_iload_n X 1 dX9_part_59 rfl rfl ?_
    exact wg_iret X ⟨(Prod.mk.inj (sm_inj h)).1, rfl, (Prod.mk.inj (sm_inj h)).2⟩ hr dX9_part_60
set_option maxHeartbeats 4000000 in
set_option maxRecDepth 100000 in
theorem J_X9_part_j34 {p : Program} {l : Launch} {e : Env} {s : State} {m : MethodId} {args : Array Value} {below : List Frame} {meth : Method} {c : Code} {E : wg_Ev} {ad : Nat → Nat} {S : wg_Sh} (X : wg_X p s m args meth c cX9_part 3 RX9 E) (hr : meth.sig.returnType = (some .int)) (hS : wg_SM S) (r0 : Int32) (D0 : wg_M) (C : wg_C) (N : Nat)  (M : wg_M)  (s0 : Int32)   (h : f_X9_part_j34 N M  s0 = some (r0, D0)) : G_X9_part p l e s m args below meth c E ad S r0 C D0 34 C M [(0, .ref (ad 55))] [.int s0] := by
  unfold f_X9_part_j34 at h
  refine wg_istore_n (lv' := [(2, .int s0), (0, .ref (ad 55))]) X dX9_part_34 rfl rfl (by decide) rfl ?_
  refine wg_aload_n X 1 dX9_part_35 rfl rfl ?_
  refine wg_bipush (v := 59) X dX9_part_36 (by decide) ?_
  obtain ⟨r8, h7, h⟩ := bd_some h
  refine wg_callVi (As := [.int (59 : Int32)]) (rest := []) X (c_X9_isSign l E ad S hS C M (59 : Int32)  h7) T_yX9_isSign k_1140 cl9 (SMi hS 55 9 rfl) dX9_part_38 rfl rfl (Nat.le_of_ble_eq_true rfl) ⟨Nat.le_of_ble_eq_true rfl, Nat.le_of_ble_eq_true rfl⟩ ⟨Nat.zero_le _, Nat.zero_le _⟩ ?_
  refine wg_if_ne X 48 dX9_part_41 (by decide) (fun c9 => ?_) (fun c9 => ?_)
  · have h := if_f c9 h
    refine wg_pick [1, 0] (lv' := [(0, .ref (ad 55)), (2, .int s0)]) rfl ?_
    exact J_X9_part_j48 X hr hS r0 D0 C N  M  s0   h
  · have h := if_t c9 h
    refine wg_aload_n X 1 dX9_part_44 rfl rfl ?_
    obtain ⟨M14, h13, h⟩ := bd_some h
    refine wg_callVv (As := []) (rest := []) X (c_X9_fail l E ad S hS C M   h13) T_yX9_fail k_1108 cl9 (SMi hS 55 9 rfl) dX9_part_45 rfl rfl (Nat.le_of_ble_eq_true rfl) ⟨Nat.le_of_ble_eq_true rfl, Nat.le_of_ble_eq_true rfl⟩ ⟨Nat.zero_le _, Nat.zero_le _⟩ ?_
    refine wg_pick [1, 0] (lv' := [(0, .ref (ad 55)), (2, .int s0)]) rfl ?_
    exact J_X9_part_j48 X hr hS r0 D0 C N  M14  s0   h
set_option maxHeartbeats 4000000 in
set_option maxRecDepth 100000 in
theorem J_X9_part_j19 {p : Program} {l : Launch} {e : Env} {s : State} {m : MethodId} {args : Array Value} {below : List Frame} {meth : Method} {c : Code} {E : wg_Ev} {ad : Nat → Nat} {S : wg_Sh} (X : wg_X p s m args meth c cX9_part 3 RX9 E) (hr : meth.sig.returnType = (some .int)) (hS : wg_SM S) (r0 : Int32) (D0 : wg_M) (C : wg_C) (N : Nat)  (M : wg_M)     (h : f_X9_part_j19 N M   = some (r0, D0)) : G_X9_part p l e s m args below meth c E ad S r0 C D0 19 C M [(0, .ref (ad 55))] [] := by
  unfold f_X9_part_j19 at h
  refine wg_aload_n X 0 dX9_part_19 rfl rfl ?_
  refine wg_getM X cl9 (SMi hS 55 9 rfl) 28 (by decide) dX9_part_20 k_910 rfl ?_
  refine wg_if_eq X 30 dX9_part_23 (by decide) (fun c3 => ?_) (fun c3 => ?_)
  · have h := if_t c3 h
    refine wg_aload_n X 0 dX9_part_30 rfl rfl ?_
    obtain ⟨r5, M6, h4, h⟩ := bd2_some h
    refine wg_callVi (As := []) (rest := []) X (c_X9_either_e l E ad S hS N C M   h4) T_yX9_either k_1112 cl9 (SMi hS 55 9 rfl) dX9_part_31 rfl rfl (Nat.le_of_ble_eq_true rfl) ⟨Nat.le_of_ble_eq_true rfl, Nat.le_of_ble_eq_true rfl⟩ ⟨Nat.zero_le _, Nat.zero_le _⟩ ?_
    exact J_X9_part_j34 X hr hS r0 D0 C N  M6  r5   h
  · have h := if_f c3 h
    refine wg_iconst (v := 0) X dX9_part_26 (by decide) ?_
    refine wg_goto X 34 dX9_part_27 (by decide) ?_
    exact J_X9_part_j34 X hr hS r0 D0 C N  M  (0 : Int32)   h
set_option maxHeartbeats 4000000 in
set_option maxRecDepth 100000 in
theorem J_X9_part_j8 {p : Program} {l : Launch} {e : Env} {s : State} {m : MethodId} {args : Array Value} {below : List Frame} {meth : Method} {c : Code} {E : wg_Ev} {ad : Nat → Nat} {S : wg_Sh} (X : wg_X p s m args meth c cX9_part 3 RX9 E) (hr : meth.sig.returnType = (some .int)) (hS : wg_SM S) (r0 : Int32) (D0 : wg_M) (C : wg_C) (N : Nat)  (M : wg_M)     (h : f_X9_part_j8 N M   = some (r0, D0)) : G_X9_part p l e s m args below meth c E ad S r0 C D0 8 C M [(0, .ref (ad 55))] [] := by
  unfold f_X9_part_j8 at h
  refine wg_aload_n X 0 dX9_part_8 rfl rfl ?_
  refine wg_getM X cl9 (SMi hS 55 9 rfl) 28 (by decide) dX9_part_9 k_910 rfl ?_
  refine wg_if_ne X 19 dX9_part_12 (by decide) (fun c2 => ?_) (fun c2 => ?_)
  · have h := if_f c2 h
    exact J_X9_part_j19 X hr hS r0 D0 C N  M     h
  · have h := if_t c2 h
    refine wg_aload_n X 0 dX9_part_15 rfl rfl ?_
    obtain ⟨M16, h15, h⟩ := bd_some h
    refine wg_callVv (As := []) (rest := []) X (c_X9_next l E ad S hS N C M   h15) T_yX9_next k_1083 cl9 (SMi hS 55 9 rfl) dX9_part_16 rfl rfl (Nat.le_of_ble_eq_true rfl) ⟨Nat.le_of_ble_eq_true rfl, Nat.le_of_ble_eq_true rfl⟩ ⟨Nat.zero_le _, Nat.zero_le _⟩ ?_
    exact J_X9_part_j19 X hr hS r0 D0 C N  M16     h
set_option maxHeartbeats 4000000 in
set_option maxRecDepth 100000 in
theorem c_X9_part (l : Launch) (E : wg_Ev) (ad : Nat → Nat) (S : wg_Sh) (hS : wg_SM S) (N : Nat) (C : wg_C) (M : wg_M) (p1 : Int32)  {r0 : Int32} {D0 : wg_M} (h : f_X9_part N M p1 = some (r0, D0)) : wg_Ci l yX9_part cX9_part 3 (some .int) 73 2882 E ad S C M [.ref (ad 55), .int p1] r0 C D0 := by
  refine wg_start (own := RX9) (by decide +kernel) rfl (Nat.le_of_ble_eq_true rfl) ?_
  intro p e s m below meth c X hr hnm
  refine wg_lv (lv' := [(0, .ref (ad 55)), (1, .int p1)]) rfl ?_
  unfold f_X9_part at h
  refine wg_iload_n X 1 dX9_part_0 rfl rfl ?_
  refine wg_if_ne X 8 dX9_part_1 (by decide) (fun c1 => ?_) (fun c1 => ?_)
  · have h := if_f c1 h
    refine wg_pick [0] (lv' := [(0, .ref (ad 55))]) rfl ?_
    exact J_X9_part_j8 X hr hS r0 D0 C N  M     h
  · have h := if_t c1 h
    refine wg_aload_n X 0 dX9_part_4 rfl rfl ?_
    obtain ⟨M18, h17, h⟩ := bd_some h
    refine wg_callVv (As := []) (rest := []) X (c_X9_fail l E ad S hS C M   h17) T_yX9_fail k_1108 cl9 (SMi hS 55 9 rfl) dX9_part_5 rfl rfl (Nat.le_of_ble_eq_true rfl) ⟨Nat.le_of_ble_eq_true rfl, Nat.le_of_ble_eq_true rfl⟩ ⟨Nat.zero_le _, Nat.zero_le _⟩ ?_
    refine wg_pick [0] (lv' := [(0, .ref (ad 55))]) rfl ?_
    exact J_X9_part_j8 X hr hS r0 D0 C N  M18     h
-- WindowsGiveModel.read(II)I (('c', 55), 'i', 'i')
def f_X9_read_j145 (N : Nat) (M : wg_M)  (x2 : Int32) (x3 : Int32) (x4 : Int32) (x5 : Int32) : Option (Int32 × wg_M) :=
  if x2 = 0 then (
    some (x3, M))
  else (
    if x2 = (1 : Int32) then (
      some (x4, M))
    else (
      some (x5, M)))
def f_X9_read_j125 (N : Nat) (M : wg_M)  (x2 : Int32) (x3 : Int32) (x4 : Int32) (s0 : Int32) : Option (Int32 × wg_M) :=
  if (M.1 55 28) = 0 then (
    if (M.1 55 24) = 0 then (
      f_X9_read_j145 N M  x2 x3 x4 s0)
    else (
      bd (f_X9_fail M ) fun M36 =>
      f_X9_read_j145 N M36  x2 x3 x4 s0))
  else (
    f_X9_read_j145 N M  x2 x3 x4 s0)
def f_X9_read_j91 (N : Nat) (M : wg_M)  (x2 : Int32) (x3 : Int32) (s0 : Int32) : Option (Int32 × wg_M) :=
  if (M.1 55 28) = 0 then (
    bd (f_X9_isWord M (112 : Int32) (114 : Int32) (105 : Int32) (99 : Int32) (101 : Int32) (0 : Int32) (0 : Int32) (0 : Int32)) fun r27 =>
    bd2 (f_X9_part N M r27) fun r29 M30 =>
    f_X9_read_j125 N M30  x2 x3 s0 r29)
  else (
    f_X9_read_j125 N M  x2 x3 s0 (0 : Int32))
def f_X9_read (N : Nat) (M : wg_M) (p1 : Int32) (p2 : Int32) : Option (Int32 × wg_M) :=
  lt_ (wg_sM M 55 21 ((160 : Int32) * p1)) fun M1 =>
  ck (inb p1 6) <|
  lt_ (wg_sM M1 55 22 (M1.1 57 p1.toNatClampNeg)) fun M4 =>
  lt_ (wg_sM M4 55 23 (0 : Int32)) fun M6 =>
  lt_ (wg_sM M6 55 27 (0 : Int32)) fun M8 =>
  lt_ (wg_sM M8 55 28 (0 : Int32)) fun M10 =>
  bd (f_X9_next N M10 ) fun M13 =>
  bd (f_X9_isWord M13 (99 : Int32) (111 : Int32) (115 : Int32) (116 : Int32) (115 : Int32) (0 : Int32) (0 : Int32) (0 : Int32)) fun r15 =>
  bd2 (f_X9_part N M13 r15) fun r17 M18 =>
  if (M18.1 55 28) = 0 then (
    bd (f_X9_isWord M18 (119 : Int32) (101 : Int32) (116 : Int32) (115 : Int32) (0 : Int32) (0 : Int32) (0 : Int32) (0 : Int32)) fun r21 =>
    bd2 (f_X9_part N M18 r21) fun r23 M24 =>
    f_X9_read_j91 N M24  p2 r17 r23)
  else (
    f_X9_read_j91 N M18  p2 r17 (0 : Int32))
abbrev G_X9_read (p : Program) (l : Launch) (e : Env) (s : State) (m : MethodId) (args : Array Value) (below : List Frame) (meth : Method) (c : Code) (E : wg_Ev) (ad : Nat → Nat) (S : wg_Sh) (r0 : Int32) (C0 : wg_C) (M0 : wg_M) (pc : Nat) (C : wg_C) (M : wg_M) (lv : List (Nat × Value)) (st : List Value) : Prop := wg_G p l e (wg_Rm 74 2904) s m args below meth c (MQ below (wg_Qi E ad S r0 C0 M0) args s 0 0 (wg_A E)) 6 E ad S 0 0 pc C M lv st
set_option maxHeartbeats 4000000 in
set_option maxRecDepth 100000 in
theorem J_X9_read_j145 {p : Program} {l : Launch} {e : Env} {s : State} {m : MethodId} {args : Array Value} {below : List Frame} {meth : Method} {c : Code} {E : wg_Ev} {ad : Nat → Nat} {S : wg_Sh} (X : wg_X p s m args meth c cX9_read 6 RX9 E) (hr : meth.sig.returnType = (some .int)) (hS : wg_SM S) (r0 : Int32) (D0 : wg_M) (C : wg_C) (N : Nat)  (M : wg_M)  (x2 : Int32) (x3 : Int32) (x4 : Int32) (x5 : Int32)   (h : f_X9_read_j145 N M  x2 x3 x4 x5 = some (r0, D0)) : G_X9_read p l e s m args below meth c E ad S r0 C D0 145 C M [(2, .int x2), (3, .int x3), (4, .int x4), (5, .int x5)] [] := by
  unfold f_X9_read_j145 at h
  refine wg_iload_n X 0 dX9_read_145 rfl rfl ?_
  refine wg_if_ne X 153 dX9_read_146 (by decide) (fun c32 => ?_) (fun c32 => ?_)
  · have h := if_f c32 h
    refine wg_iload_n X 0 dX9_read_153 rfl rfl ?_
    refine wg_iconst (v := 1) X dX9_read_154 (by decide) ?_
    refine wg_icmp_ne X 163 dX9_read_155 (by decide) (fun c33 => ?_) (fun c33 => ?_)
    · have h := if_f c33 h
      refine wg_iload X 3 dX9_read_163 rfl ?_
      exact wg_iret X ⟨(Prod.mk.inj (sm_inj h)).1, rfl, (Prod.mk.inj (sm_inj h)).2⟩ hr dX9_read_165
    · have h := if_t c33 h
      refine wg_iload X 2 dX9_read_158 rfl ?_
      refine wg_goto X 165 dX9_read_160 (by decide) ?_
      exact wg_iret X ⟨(Prod.mk.inj (sm_inj h)).1, rfl, (Prod.mk.inj (sm_inj h)).2⟩ hr dX9_read_165
  · have h := if_t c32 h
    refine wg_iload_n X 1 dX9_read_149 rfl rfl ?_
    refine wg_goto X 165 dX9_read_150 (by decide) ?_
    exact wg_iret X ⟨(Prod.mk.inj (sm_inj h)).1, rfl, (Prod.mk.inj (sm_inj h)).2⟩ hr dX9_read_165
set_option maxHeartbeats 4000000 in
set_option maxRecDepth 100000 in
theorem J_X9_read_j125 {p : Program} {l : Launch} {e : Env} {s : State} {m : MethodId} {args : Array Value} {below : List Frame} {meth : Method} {c : Code} {E : wg_Ev} {ad : Nat → Nat} {S : wg_Sh} (X : wg_X p s m args meth c cX9_read 6 RX9 E) (hr : meth.sig.returnType = (some .int)) (hS : wg_SM S) (r0 : Int32) (D0 : wg_M) (C : wg_C) (N : Nat)  (M : wg_M)  (x2 : Int32) (x3 : Int32) (x4 : Int32) (s0 : Int32)   (h : f_X9_read_j125 N M  x2 x3 x4 s0 = some (r0, D0)) : G_X9_read p l e s m args below meth c E ad S r0 C D0 125 C M [(0, .ref (ad 55)), (2, .int x2), (3, .int x3), (4, .int x4)] [.int s0] := by
  unfold f_X9_read_j125 at h
  refine wg_istore (lv' := [(5, .int s0), (0, .ref (ad 55)), (2, .int x2), (3, .int x3), (4, .int x4)]) X dX9_read_125 rfl (by decide) rfl ?_
  refine wg_aload_n X 1 dX9_read_127 rfl rfl ?_
  refine wg_getM X cl9 (SMi hS 55 9 rfl) 28 (by decide) dX9_read_128 k_910 rfl ?_
  refine wg_if_ne X 145 dX9_read_131 (by decide) (fun c31 => ?_) (fun c31 => ?_)
  · have h := if_f c31 h
    refine wg_pick [2, 3, 4, 0] (lv' := [(2, .int x2), (3, .int x3), (4, .int x4), (5, .int s0)]) rfl ?_
    exact J_X9_read_j145 X hr hS r0 D0 C N  M  x2 x3 x4 s0   h
  · have h := if_t c31 h
    refine wg_aload_n X 1 dX9_read_134 rfl rfl ?_
    refine wg_getM X cl9 (SMi hS 55 9 rfl) 24 (by decide) dX9_read_135 k_906 rfl ?_
    refine wg_if_eq X 145 dX9_read_138 (by decide) (fun c34 => ?_) (fun c34 => ?_)
    · have h := if_t c34 h
      refine wg_pick [2, 3, 4, 0] (lv' := [(2, .int x2), (3, .int x3), (4, .int x4), (5, .int s0)]) rfl ?_
      exact J_X9_read_j145 X hr hS r0 D0 C N  M  x2 x3 x4 s0   h
    · have h := if_f c34 h
      refine wg_aload_n X 1 dX9_read_141 rfl rfl ?_
      obtain ⟨M36, h35, h⟩ := bd_some h
      refine wg_callVv (As := []) (rest := []) X (c_X9_fail l E ad S hS C M   h35) T_yX9_fail k_1108 cl9 (SMi hS 55 9 rfl) dX9_read_142 rfl rfl (Nat.le_of_ble_eq_true rfl) ⟨Nat.le_of_ble_eq_true rfl, Nat.le_of_ble_eq_true rfl⟩ ⟨Nat.zero_le _, Nat.zero_le _⟩ ?_
      refine wg_pick [2, 3, 4, 0] (lv' := [(2, .int x2), (3, .int x3), (4, .int x4), (5, .int s0)]) rfl ?_
      exact J_X9_read_j145 X hr hS r0 D0 C N  M36  x2 x3 x4 s0   h
set_option maxHeartbeats 4000000 in
set_option maxRecDepth 100000 in
theorem J_X9_read_j91 {p : Program} {l : Launch} {e : Env} {s : State} {m : MethodId} {args : Array Value} {below : List Frame} {meth : Method} {c : Code} {E : wg_Ev} {ad : Nat → Nat} {S : wg_Sh} (X : wg_X p s m args meth c cX9_read 6 RX9 E) (hr : meth.sig.returnType = (some .int)) (hS : wg_SM S) (r0 : Int32) (D0 : wg_M) (C : wg_C) (N : Nat)  (M : wg_M)  (x2 : Int32) (x3 : Int32) (s0 : Int32)   (h : f_X9_read_j91 N M  x2 x3 s0 = some (r0, D0)) : G_X9_read p l e s m args below meth c E ad S r0 C D0 91 C M [(0, .ref (ad 55)), (2, .int x2), (3, .int x3)] [.int s0] := by
  unfold f_X9_read_j91 at h
  refine wg_istore (lv' := [(4, .int s0), (0, .ref (ad 55)), (2, .int x2), (3, .int x3)]) X dX9_read_91 rfl (by decide) rfl ?_
  refine wg_aload_n X 1 dX9_read_93 rfl rfl ?_
  refine wg_getM X cl9 (SMi hS 55 9 rfl) 28 (by decide) dX9_read_94 k_910 rfl ?_
  refine wg_if_eq X 104 dX9_read_97 (by decide) (fun c25 => ?_) (fun c25 => ?_)
  · have h := if_t c25 h
    refine wg_aload_n X 1 dX9_read_104 rfl rfl ?_
    refine wg_aload_n X 1 dX9_read_105 rfl rfl ?_
    refine wg_bipush (v := 112) X dX9_read_106 (by decide) ?_
    refine wg_bipush (v := 114) X dX9_read_108 (by decide) ?_
    refine wg_bipush (v := 105) X dX9_read_110 (by decide) ?_
    refine wg_bipush (v := 99) X dX9_read_112 (by decide) ?_
    refine wg_bipush (v := 101) X dX9_read_114 (by decide) ?_
    refine wg_iconst (v := 0) X dX9_read_116 (by decide) ?_
    refine wg_iconst (v := 0) X dX9_read_117 (by decide) ?_
    refine wg_iconst (v := 0) X dX9_read_118 (by decide) ?_
    obtain ⟨r27, h26, h⟩ := bd_some h
    refine wg_callVi (As := [.int (112 : Int32), .int (114 : Int32), .int (105 : Int32), .int (99 : Int32), .int (101 : Int32), .int (0 : Int32), .int (0 : Int32), .int (0 : Int32)]) (rest := [.ref (ad 55)]) X (c_X9_isWord l E ad S hS C M (112 : Int32) (114 : Int32) (105 : Int32) (99 : Int32) (101 : Int32) (0 : Int32) (0 : Int32) (0 : Int32)  h26) T_yX9_isWord k_1096 cl9 (SMi hS 55 9 rfl) dX9_read_119 rfl rfl (Nat.le_of_ble_eq_true rfl) ⟨Nat.le_of_ble_eq_true rfl, Nat.le_of_ble_eq_true rfl⟩ ⟨Nat.zero_le _, Nat.zero_le _⟩ ?_
    obtain ⟨r29, M30, h28, h⟩ := bd2_some h
    refine wg_callVi (As := [.int r27]) (rest := []) X (c_X9_part l E ad S hS N C M r27  h28) T_yX9_part k_1104 cl9 (SMi hS 55 9 rfl) dX9_read_122 rfl rfl (Nat.le_of_ble_eq_true rfl) ⟨Nat.le_of_ble_eq_true rfl, Nat.le_of_ble_eq_true rfl⟩ ⟨Nat.zero_le _, Nat.zero_le _⟩ ?_
    refine wg_pick [1, 2, 3, 0] (lv' := [(0, .ref (ad 55)), (2, .int x2), (3, .int x3), (4, .int s0)]) rfl ?_
    exact J_X9_read_j125 X hr hS r0 D0 C N  M30  x2 x3 s0 r29   h
  · have h := if_f c25 h
    refine wg_iconst (v := 0) X dX9_read_100 (by decide) ?_
    refine wg_goto X 125 dX9_read_101 (by decide) ?_
    refine wg_pick [1, 2, 3, 0] (lv' := [(0, .ref (ad 55)), (2, .int x2), (3, .int x3), (4, .int s0)]) rfl ?_
    exact J_X9_read_j125 X hr hS r0 D0 C N  M  x2 x3 s0 (0 : Int32)   h
set_option maxHeartbeats 4000000 in
set_option maxRecDepth 100000 in
theorem c_X9_read (l : Launch) (E : wg_Ev) (ad : Nat → Nat) (S : wg_Sh) (hS : wg_SM S) (N : Nat) (C : wg_C) (M : wg_M) (p1 : Int32) (p2 : Int32)  {r0 : Int32} {D0 : wg_M} (h : f_X9_read N M p1 p2 = some (r0, D0)) : wg_Ci l yX9_read cX9_read 6 (some .int) 74 2904 E ad S C M [.ref (ad 55), .int p1, .int p2] r0 C D0 := by
  refine wg_start (own := RX9) (by decide +kernel) rfl (Nat.le_of_ble_eq_true rfl) ?_
  intro p e s m below meth c X hr hnm
  refine wg_lv (lv' := [(0, .ref (ad 55)), (1, .int p1), (2, .int p2)]) rfl ?_
  unfold f_X9_read at h
  refine wg_aload_n X 0 dX9_read_0 rfl rfl ?_
  refine wg_sipush (v := 160) X dX9_read_1 (by decide) ?_
  refine wg_iload_n X 1 dX9_read_4 rfl rfl ?_
  refine wg_imul X dX9_read_5 ?_
  obtain ⟨M1, e2, h⟩ := lt_some h
  refine wg_putMe X cl9 (SMi hS 55 9 rfl) 21 (by decide) dX9_read_6 k_903 rfl rfl rfl rfl e2 ?_
  refine wg_aload_n X 0 dX9_read_9 rfl rfl ?_
  refine wg_aload_n X 0 dX9_read_10 rfl rfl ?_
  refine wg_getR (b := 57) X cl9 (SMi hS 55 9 rfl) 2 (by decide) dX9_read_11 k_884 rfl (SMr hS 2 57 rfl) ?_
  refine wg_iload_n X 1 dX9_read_14 rfl rfl ?_
  obtain ⟨z3, h⟩ := ck_some h
  refine wg_mald X (SMi hS 57 11 rfl) (SMl hS 57 6 rfl) z3 dX9_read_15 ?_
  obtain ⟨M4, e5, h⟩ := lt_some h
  refine wg_putMe X cl9 (SMi hS 55 9 rfl) 22 (by decide) dX9_read_16 k_904 rfl rfl rfl rfl e5 ?_
  refine wg_aload_n X 0 dX9_read_19 rfl rfl ?_
  refine wg_iconst (v := 0) X dX9_read_20 (by decide) ?_
  obtain ⟨M6, e7, h⟩ := lt_some h
  refine wg_putMe X cl9 (SMi hS 55 9 rfl) 23 (by decide) dX9_read_21 k_905 rfl rfl rfl rfl e7 ?_
  refine wg_aload_n X 0 dX9_read_24 rfl rfl ?_
  refine wg_iconst (v := 0) X dX9_read_25 (by decide) ?_
  obtain ⟨M8, e9, h⟩ := lt_some h
  refine wg_putMe X cl9 (SMi hS 55 9 rfl) 27 (by decide) dX9_read_26 k_909 rfl rfl rfl rfl e9 ?_
  refine wg_aload_n X 0 dX9_read_29 rfl rfl ?_
  refine wg_iconst (v := 0) X dX9_read_30 (by decide) ?_
  obtain ⟨M10, e11, h⟩ := lt_some h
  refine wg_putMe X cl9 (SMi hS 55 9 rfl) 28 (by decide) dX9_read_31 k_910 rfl rfl (by decide) (by decide) e11 ?_
  refine wg_aload_n X 0 dX9_read_34 rfl rfl ?_
  obtain ⟨M13, h12, h⟩ := bd_some h
  refine wg_callVv (As := []) (rest := []) X (c_X9_next l E ad S hS N C M10   h12) T_yX9_next k_1083 cl9 (SMi hS 55 9 rfl) dX9_read_35 rfl rfl (Nat.le_of_ble_eq_true rfl) ⟨Nat.le_of_ble_eq_true rfl, Nat.le_of_ble_eq_true rfl⟩ ⟨Nat.zero_le _, Nat.zero_le _⟩ ?_
  refine wg_aload_n X 0 dX9_read_38 rfl rfl ?_
  refine wg_aload_n X 0 dX9_read_39 rfl rfl ?_
  refine wg_bipush (v := 99) X dX9_read_40 (by decide) ?_
  refine wg_bipush (v := 111) X dX9_read_42 (by decide) ?_
  refine wg_bipush (v := 115) X dX9_read_44 (by decide) ?_
  refine wg_bipush (v := 116) X dX9_read_46 (by decide) ?_
  refine wg_bipush (v := 115) X dX9_read_48 (by decide) ?_
  refine wg_iconst (v := 0) X dX9_read_50 (by decide) ?_
  refine wg_iconst (v := 0) X dX9_read_51 (by decide) ?_
  refine wg_iconst (v := 0) X dX9_read_52 (by decide) ?_
  obtain ⟨r15, h14, h⟩ := bd_some h
  refine wg_callVi (As := [.int (99 : Int32), .int (111 : Int32), .int (115 : Int32), .int (116 : Int32), .int (115 : Int32), .int (0 : Int32), .int (0 : Int32), .int (0 : Int32)]) (rest := [.ref (ad 55)]) X (c_X9_isWord l E ad S hS C M13 (99 : Int32) (111 : Int32) (115 : Int32) (116 : Int32) (115 : Int32) (0 : Int32) (0 : Int32) (0 : Int32)  h14) T_yX9_isWord k_1096 cl9 (SMi hS 55 9 rfl) dX9_read_53 rfl rfl (Nat.le_of_ble_eq_true rfl) ⟨Nat.le_of_ble_eq_true rfl, Nat.le_of_ble_eq_true rfl⟩ ⟨Nat.zero_le _, Nat.zero_le _⟩ ?_
  obtain ⟨r17, M18, h16, h⟩ := bd2_some h
  refine wg_callVi (As := [.int r15]) (rest := []) X (c_X9_part l E ad S hS N C M13 r15  h16) T_yX9_part k_1104 cl9 (SMi hS 55 9 rfl) dX9_read_56 rfl rfl (Nat.le_of_ble_eq_true rfl) ⟨Nat.le_of_ble_eq_true rfl, Nat.le_of_ble_eq_true rfl⟩ ⟨Nat.zero_le _, Nat.zero_le _⟩ ?_
  refine wg_istore_n (lv' := [(3, .int r17), (0, .ref (ad 55)), (1, .int p1), (2, .int p2)]) X dX9_read_59 rfl rfl (by decide) rfl ?_
  refine wg_aload_n X 1 dX9_read_60 rfl rfl ?_
  refine wg_getM X cl9 (SMi hS 55 9 rfl) 28 (by decide) dX9_read_61 k_910 rfl ?_
  refine wg_if_eq X 71 dX9_read_64 (by decide) (fun c19 => ?_) (fun c19 => ?_)
  · have h := if_t c19 h
    refine wg_aload_n X 1 dX9_read_71 rfl rfl ?_
    refine wg_aload_n X 1 dX9_read_72 rfl rfl ?_
    refine wg_bipush (v := 119) X dX9_read_73 (by decide) ?_
    refine wg_bipush (v := 101) X dX9_read_75 (by decide) ?_
    refine wg_bipush (v := 116) X dX9_read_77 (by decide) ?_
    refine wg_bipush (v := 115) X dX9_read_79 (by decide) ?_
    refine wg_iconst (v := 0) X dX9_read_81 (by decide) ?_
    refine wg_iconst (v := 0) X dX9_read_82 (by decide) ?_
    refine wg_iconst (v := 0) X dX9_read_83 (by decide) ?_
    refine wg_iconst (v := 0) X dX9_read_84 (by decide) ?_
    obtain ⟨r21, h20, h⟩ := bd_some h
    refine wg_callVi (As := [.int (119 : Int32), .int (101 : Int32), .int (116 : Int32), .int (115 : Int32), .int (0 : Int32), .int (0 : Int32), .int (0 : Int32), .int (0 : Int32)]) (rest := [.ref (ad 55)]) X (c_X9_isWord l E ad S hS C M18 (119 : Int32) (101 : Int32) (116 : Int32) (115 : Int32) (0 : Int32) (0 : Int32) (0 : Int32) (0 : Int32)  h20) T_yX9_isWord k_1096 cl9 (SMi hS 55 9 rfl) dX9_read_85 rfl rfl (Nat.le_of_ble_eq_true rfl) ⟨Nat.le_of_ble_eq_true rfl, Nat.le_of_ble_eq_true rfl⟩ ⟨Nat.zero_le _, Nat.zero_le _⟩ ?_
    obtain ⟨r23, M24, h22, h⟩ := bd2_some h
    refine wg_callVi (As := [.int r21]) (rest := []) X (c_X9_part l E ad S hS N C M18 r21  h22) T_yX9_part k_1104 cl9 (SMi hS 55 9 rfl) dX9_read_88 rfl rfl (Nat.le_of_ble_eq_true rfl) ⟨Nat.le_of_ble_eq_true rfl, Nat.le_of_ble_eq_true rfl⟩ ⟨Nat.zero_le _, Nat.zero_le _⟩ ?_
    refine wg_pick [1, 3, 0] (lv' := [(0, .ref (ad 55)), (2, .int p2), (3, .int r17)]) rfl ?_
    exact J_X9_read_j91 X hr hS r0 D0 C N  M24  p2 r17 r23   h
  · have h := if_f c19 h
    refine wg_iconst (v := 0) X dX9_read_67 (by decide) ?_
    refine wg_goto X 91 dX9_read_68 (by decide) ?_
    refine wg_pick [1, 3, 0] (lv' := [(0, .ref (ad 55)), (2, .int p2), (3, .int r17)]) rfl ?_
    exact J_X9_read_j91 X hr hS r0 D0 C N  M18  p2 r17 (0 : Int32)   h
-- WindowsGiveModel.text()I (('c', 55),)
def f_X9_text_l14 (N : Nat)   (M : wg_M) (x1 : Int32) : Option ((wg_M × Int32) ⊕ (wg_M × Int32)) :=
  if (M.1 55 6) ≤ x1 then (
    some (.inr (M, x1)))
  else (
    ck (inb x1 160) <|
    ck (inb (((160 : Int32) * (M.1 55 3)) + x1) 960) <|
    lt_ (wg_sM M 56 (((160 : Int32) * (M.1 55 3)) + x1).toNatClampNeg (M.1 58 x1.toNatClampNeg)) fun M5 =>
    lt_ (x1 + (1 : Int32)) fun v7 =>
    some (.inl (M5, v7)))
def f_X9_text (N : Nat) (M : wg_M)  : Option (Int32 × wg_M) :=
  if (M.1 55 3) = (6 : Int32) then (
    some ((-4 : Int32), M))
  else (
    bd2 (lp (fun o => f_X9_text_l14 N   o.1 o.2) N (M, (0 : Int32))) fun M9 v10 =>
    ck (inb (M9.1 55 3) 6) <|
    lt_ (wg_sM M9 57 (M9.1 55 3).toNatClampNeg (M9.1 55 6)) fun M16 =>
    lt_ (wg_sM M16 55 6 (0 : Int32)) fun M18 =>
    bd2 (f_X9_read N M18 (M18.1 55 3) (0 : Int32)) fun r21 M22 =>
    if (M22.1 55 28) = 0 then (
      lt_ (wg_sM M22 55 3 ((M22.1 55 3) + (1 : Int32))) fun M24 =>
      some (((M24.1 55 3) - (1 : Int32)), M24))
    else (
      some (((-100 : Int32) - (M22.1 55 29)), M22)))
abbrev G_X9_text (p : Program) (l : Launch) (e : Env) (s : State) (m : MethodId) (args : Array Value) (below : List Frame) (meth : Method) (c : Code) (E : wg_Ev) (ad : Nat → Nat) (S : wg_Sh) (r0 : Int32) (C0 : wg_C) (M0 : wg_M) (pc : Nat) (C : wg_C) (M : wg_M) (lv : List (Nat × Value)) (st : List Value) : Prop := wg_G p l e (wg_Rm 75 2929) s m args below meth c (MQ below (wg_Qi E ad S r0 C0 M0) args s 0 0 (wg_A E)) 2 E ad S 0 0 pc C M lv st
set_option maxHeartbeats 4000000 in
set_option maxRecDepth 100000 in
theorem L_X9_text_l14 {p : Program} {l : Launch} {e : Env} {s : State} {m : MethodId} {args : Array Value} {below : List Frame} {meth : Method} {c : Code} {E : wg_Ev} {ad : Nat → Nat} {S : wg_Sh} (X : wg_X p s m args meth c cX9_text 2 RX9 E) (hr : meth.sig.returnType = (some .int)) (hS : wg_SM S) (r0 : Int32) (D0 : wg_M) (C : wg_C) (N : Nat)     : ∀ (n : Nat) (M : wg_M) (x1 : Int32) (o : (wg_M × Int32)), lp (fun o => f_X9_text_l14 N   o.1 o.2) n (M, x1) = some o → (∀ (Dy : wg_M) (y1 : Int32), o = (Dy, y1) → G_X9_text p l e s m args below meth c E ad S r0 C D0 49 C Dy [(0, .ref (ad 55)), (1, .int y1)] []) → G_X9_text p l e s m args below meth c E ad S r0 C D0 14 C M [(0, .ref (ad 55)), (1, .int x1)] [] := by
  intro n
  induction n with
  | zero => exact fun _ _ o h => (lp_zero h).elim
  | succ n ih =>
    intro M x1 o h K
    obtain ⟨o1, hb, h2⟩ := lp_some h
    replace hb : f_X9_text_l14 N   M x1 = some o1 := hb
    clear h
    have Kc : ∀ (Dy : wg_M) (y1 : Int32), o1 = Sum.inl (Dy, y1) → G_X9_text p l e s m args below meth c E ad S r0 C D0 14 C Dy [(0, .ref (ad 55)), (1, .int y1)] [] := fun Dy y1 e1 => by
      subst e1
      exact ih Dy y1 o h2 K
    have Ke : ∀ (Dy : wg_M) (y1 : Int32), o1 = Sum.inr ((Dy, y1)) → G_X9_text p l e s m args below meth c E ad S r0 C D0 49 C Dy [(0, .ref (ad 55)), (1, .int y1)] [] := fun Dy y1 e1 => by
      subst e1
      exact K Dy y1 (sm_inj (α := (wg_M × Int32)) h2).symm
    clear ih K h2
    unfold f_X9_text_l14 at hb
    have h := hb
    clear hb
    refine wg_iload_n X 1 dX9_text_14 rfl rfl ?_
    refine wg_aload_n X 0 dX9_text_15 rfl rfl ?_
    refine wg_getM X cl9 (SMi hS 55 9 rfl) 6 (by decide) dX9_text_16 k_888 rfl ?_
    refine wg_icmp_ge X 49 dX9_text_19 (by decide) (fun c2 => ?_) (fun c2 => ?_)
    · have h := if_t c2 h
      exact Ke M x1 (sm_inj h).symm
    · have h := if_f c2 h
      refine wg_aload_n X 0 dX9_text_22 rfl rfl ?_
      refine wg_getR (b := 56) X cl9 (SMi hS 55 9 rfl) 1 (by decide) dX9_text_23 k_883 rfl (SMr hS 1 56 rfl) ?_
      refine wg_sipush (v := 160) X dX9_text_26 (by decide) ?_
      refine wg_aload_n X 0 dX9_text_29 rfl rfl ?_
      refine wg_getM X cl9 (SMi hS 55 9 rfl) 3 (by decide) dX9_text_30 k_885 rfl ?_
      refine wg_imul X dX9_text_33 ?_
      refine wg_iload_n X 1 dX9_text_34 rfl rfl ?_
      refine wg_iadd X dX9_text_35 ?_
      refine wg_aload_n X 0 dX9_text_36 rfl rfl ?_
      refine wg_getR (b := 58) X cl9 (SMi hS 55 9 rfl) 5 (by decide) dX9_text_37 k_887 rfl (SMr hS 5 58 rfl) ?_
      refine wg_iload_n X 1 dX9_text_40 rfl rfl ?_
      obtain ⟨z3, h⟩ := ck_some h
      refine wg_mald X (SMi hS 58 11 rfl) (SMl hS 58 160 rfl) z3 dX9_text_41 ?_
      obtain ⟨z4, h⟩ := ck_some h
      obtain ⟨M5, e6, h⟩ := lt_some h
      refine wg_maste X (SMi hS 56 11 rfl) (SMl hS 56 960 rfl) z4 dX9_text_42 e6 ?_
      obtain ⟨v7, e8, h⟩ := lt_some h
      refine wg_iinc (lv' := [(1, .int v7), (0, .ref (ad 55))]) X 1 dX9_text_43 rfl e8 (by decide) rfl ?_
      refine wg_goto X 14 dX9_text_46 (by decide) ?_
      refine wg_pick [1, 0] (lv' := [(0, .ref (ad 55)), (1, .int v7)]) rfl ?_
      exact Kc M5 v7 (sm_inj h).symm
set_option maxHeartbeats 4000000 in
set_option maxRecDepth 100000 in
theorem c_X9_text (l : Launch) (E : wg_Ev) (ad : Nat → Nat) (S : wg_Sh) (hS : wg_SM S) (N : Nat) (C : wg_C) (M : wg_M)   {r0 : Int32} {D0 : wg_M} (h : f_X9_text N M  = some (r0, D0)) : wg_Ci l yX9_text cX9_text 2 (some .int) 75 2929 E ad S C M [.ref (ad 55)] r0 C D0 := by
  refine wg_start (own := RX9) (by decide +kernel) rfl (Nat.le_of_ble_eq_true rfl) ?_
  intro p e s m below meth c X hr hnm
  refine wg_lv (lv' := [(0, .ref (ad 55))]) rfl ?_
  unfold f_X9_text at h
  refine wg_aload_n X 0 dX9_text_0 rfl rfl ?_
  refine wg_getM X cl9 (SMi hS 55 9 rfl) 3 (by decide) dX9_text_1 k_885 rfl ?_
  refine wg_bipush (v := 6) X dX9_text_4 (by decide) ?_
  refine wg_icmp_ne X 12 dX9_text_6 (by decide) (fun c1 => ?_) (fun c1 => ?_)
  · have h := if_f c1 h
    refine wg_iconst (v := 0) X dX9_text_12 (by decide) ?_
    refine wg_istore_n (lv' := [(1, .int (0 : Int32)), (0, .ref (ad 55))]) X dX9_text_13 rfl rfl (by decide) rfl ?_
    obtain ⟨o11, h12, h⟩ := bd2_o h
    refine wg_pick [1, 0] (lv' := [(0, .ref (ad 55)), (1, .int (0 : Int32))]) rfl ?_
    refine L_X9_text_l14 X hr hS r0 D0 C N     N M (0 : Int32) o11 h12 (fun M9 v10 e14 => ?_)
    · subst e14
      replace h := bd2_in h
      refine wg_aload_n X 0 dX9_text_49 rfl rfl ?_
      refine wg_getR (b := 57) X cl9 (SMi hS 55 9 rfl) 2 (by decide) dX9_text_50 k_884 rfl (SMr hS 2 57 rfl) ?_
      refine wg_aload_n X 0 dX9_text_53 rfl rfl ?_
      refine wg_getM X cl9 (SMi hS 55 9 rfl) 3 (by decide) dX9_text_54 k_885 rfl ?_
      refine wg_aload_n X 0 dX9_text_57 rfl rfl ?_
      refine wg_getM X cl9 (SMi hS 55 9 rfl) 6 (by decide) dX9_text_58 k_888 rfl ?_
      obtain ⟨z15, h⟩ := ck_some h
      obtain ⟨M16, e17, h⟩ := lt_some h
      refine wg_maste X (SMi hS 57 11 rfl) (SMl hS 57 6 rfl) z15 dX9_text_61 e17 ?_
      refine wg_aload_n X 0 dX9_text_62 rfl rfl ?_
      refine wg_iconst (v := 0) X dX9_text_63 (by decide) ?_
      obtain ⟨M18, e19, h⟩ := lt_some h
      refine wg_putMe X cl9 (SMi hS 55 9 rfl) 6 (by decide) dX9_text_64 k_888 rfl rfl rfl rfl e19 ?_
      refine wg_aload_n X 0 dX9_text_67 rfl rfl ?_
      refine wg_aload_n X 0 dX9_text_68 rfl rfl ?_
      refine wg_getM X cl9 (SMi hS 55 9 rfl) 3 (by decide) dX9_text_69 k_885 rfl ?_
      refine wg_iconst (v := 0) X dX9_text_72 (by decide) ?_
      obtain ⟨r21, M22, h20, h⟩ := bd2_some h
      refine wg_callVi (As := [.int (M18.1 55 3), .int (0 : Int32)]) (rest := []) X (c_X9_read l E ad S hS N C M18 (M18.1 55 3) (0 : Int32)  h20) T_yX9_read k_1079 cl9 (SMi hS 55 9 rfl) dX9_text_73 rfl rfl (Nat.le_of_ble_eq_true rfl) ⟨Nat.le_of_ble_eq_true rfl, Nat.le_of_ble_eq_true rfl⟩ ⟨Nat.zero_le _, Nat.zero_le _⟩ ?_
      refine wg_istore_n (lv' := [(1, .int r21), (0, .ref (ad 55))]) X dX9_text_76 rfl rfl (by decide) rfl ?_
      refine wg_aload_n X 1 dX9_text_77 rfl rfl ?_
      refine wg_getM X cl9 (SMi hS 55 9 rfl) 28 (by decide) dX9_text_78 k_910 rfl ?_
      refine wg_if_eq X 92 dX9_text_81 (by decide) (fun c23 => ?_) (fun c23 => ?_)
      · have h := if_t c23 h
        refine wg_aload_n X 1 dX9_text_92 rfl rfl ?_
        refine wg_dup X dX9_text_93 rfl ?_
        refine wg_getM X cl9 (SMi hS 55 9 rfl) 3 (by decide) dX9_text_94 k_885 rfl ?_
        refine wg_iconst (v := 1) X dX9_text_97 (by decide) ?_
        refine wg_iadd X dX9_text_98 ?_
        obtain ⟨M24, e25, h⟩ := lt_some h
        refine wg_putMe X cl9 (SMi hS 55 9 rfl) 3 (by decide) dX9_text_99 k_885 rfl rfl rfl rfl e25 ?_
        refine wg_aload_n X 1 dX9_text_102 rfl rfl ?_
        refine wg_getM X cl9 (SMi hS 55 9 rfl) 3 (by decide) dX9_text_103 k_885 rfl ?_
        refine wg_iconst (v := 1) X dX9_text_106 (by decide) ?_
        refine wg_isub X dX9_text_107 ?_
        exact wg_iret X ⟨(Prod.mk.inj (sm_inj h)).1, rfl, (Prod.mk.inj (sm_inj h)).2⟩ hr dX9_text_108
      · have h := if_f c23 h
        refine wg_bipush (v := -100) X dX9_text_84 (by decide) ?_
        refine wg_aload_n X 1 dX9_text_86 rfl rfl ?_
        refine wg_getM X cl9 (SMi hS 55 9 rfl) 29 (by decide) dX9_text_87 k_911 rfl ?_
        refine wg_isub X dX9_text_90 ?_
        exact wg_iret X ⟨(Prod.mk.inj (sm_inj h)).1, rfl, (Prod.mk.inj (sm_inj h)).2⟩ hr dX9_text_91
  · have h := if_t c1 h
    refine wg_bipush (v := -4) X dX9_text_9 (by decide) ?_
    exact wg_iret X ⟨(Prod.mk.inj (sm_inj h)).1, rfl, (Prod.mk.inj (sm_inj h)).2⟩ hr dX9_text_11
-- WindowsGiveModel.force(I)I (('c', 55), 'i')
def f_X9_force (M : wg_M) (p1 : Int32) : Option (Int32 × wg_M) :=
  bd (f_X9_in p1.toInt64 (0 : Int64) (((M.1 55 3) - (1 : Int32)).toInt64)) fun r2 =>
  if r2 = 0 then (
    some ((-2 : Int32), M))
  else (
    lt_ (M.1 55 4) fun v4 =>
    lt_ (wg_sM M 55 4 p1) fun M6 =>
    some (v4, M6))
set_option maxHeartbeats 4000000 in
set_option maxRecDepth 100000 in
theorem c_X9_force (l : Launch) (E : wg_Ev) (ad : Nat → Nat) (S : wg_Sh) (hS : wg_SM S) (C : wg_C) (M : wg_M) (p1 : Int32)  {r0 : Int32} {D0 : wg_M} (h : f_X9_force M p1 = some (r0, D0)) : wg_Ci l yX9_force cX9_force 3 (some .int) 1 25 E ad S C M [.ref (ad 55), .int p1] r0 C D0 := by
  refine wg_start (own := RX9) (by decide +kernel) rfl (Nat.le_of_ble_eq_true rfl) ?_
  intro p e s m below meth c X hr hnm
  refine wg_lv (lv' := [(0, .ref (ad 55)), (1, .int p1)]) rfl ?_
  unfold f_X9_force at h
  refine wg_iload_n X 1 dX9_force_0 rfl rfl ?_
  refine wg_i2l X dX9_force_1 ?_
  refine wg_lconst (v := 0) X dX9_force_2 (by decide) ?_
  refine wg_aload_n X 0 dX9_force_3 rfl rfl ?_
  refine wg_getM X cl9 (SMi hS 55 9 rfl) 3 (by decide) dX9_force_4 k_885 rfl ?_
  refine wg_iconst (v := 1) X dX9_force_7 (by decide) ?_
  refine wg_isub X dX9_force_8 ?_
  refine wg_i2l X dX9_force_9 ?_
  obtain ⟨r2, h1, h⟩ := bd_some h
  refine wg_callSi (As := [.long (p1.toInt64), .long (0 : Int64), .long (((M.1 55 3) - (1 : Int32)).toInt64)]) (rest := []) X (c_X9_in l E ad S C M p1.toInt64 (0 : Int64) (((M.1 55 3) - (1 : Int32)).toInt64)  h1) T_yX9_in k_1021 dX9_force_10 rfl rfl (Nat.le_of_ble_eq_true rfl) ⟨Nat.le_of_ble_eq_true rfl, Nat.le_of_ble_eq_true rfl⟩ ⟨Nat.zero_le _, Nat.zero_le _⟩ ?_
  refine wg_if_ne X 19 dX9_force_13 (by decide) (fun c3 => ?_) (fun c3 => ?_)
  · have h := if_f c3 h
    refine wg_aload_n X 0 dX9_force_19 rfl rfl ?_
    refine wg_getM X cl9 (SMi hS 55 9 rfl) 4 (by decide) dX9_force_20 k_886 rfl ?_
    obtain ⟨v4, e5, h⟩ := lt_some h
    refine wg_istore_n (lv' := [(2, .int v4), (0, .ref (ad 55)), (1, .int p1)]) X dX9_force_23 rfl e5 (by decide) rfl ?_
    refine wg_aload_n X 1 dX9_force_24 rfl rfl ?_
    refine wg_iload_n X 2 dX9_force_25 rfl rfl ?_
    obtain ⟨M6, e7, h⟩ := lt_some h
    refine wg_putMe X cl9 (SMi hS 55 9 rfl) 4 (by decide) dX9_force_26 k_886 rfl rfl rfl rfl e7 ?_
    refine wg_iload_n X 0 dX9_force_29 rfl rfl ?_
    exact wg_iret X ⟨(Prod.mk.inj (sm_inj h)).1, rfl, (Prod.mk.inj (sm_inj h)).2⟩ hr dX9_force_30
  · have h := if_t c3 h
    refine wg_bipush (v := -2) X dX9_force_16 (by decide) ?_
    exact wg_iret X ⟨(Prod.mk.inj (sm_inj h)).1, rfl, (Prod.mk.inj (sm_inj h)).2⟩ hr dX9_force_18
-- WindowsGiveModel.says(III)I (('c', 55), 'i', 'i', 'i')
def f_X9_says_j53 (N : Nat) (M : wg_M)  (x1 : Int32) (x2 : Int32) (s0 : Int32) : Option (Int32 × wg_M) :=
  lt_ (wg_sM M 55 18 s0) fun M14 =>
  lt_ (wg_sM M14 55 19 x2) fun M16 =>
  ck (inb x2 8) <|
  lt_ (wg_sM M16 55 20 (M16.1 63 x2.toNatClampNeg)) fun M19 =>
  bd2 (f_X9_read N M19 (M19.1 55 4) x1) fun r22 M23 =>
  if x1 = 0 then (
    bd (f_X9_within r22 (1 : Int32) (99 : Int32)) fun r28 =>
    some (r28, M23))
  else (
    bd (f_X9_within r22 (0 : Int32) (99 : Int32)) fun r26 =>
    some (r26, M23))
def f_X9_says (N : Nat) (M : wg_M) (p1 : Int32) (p2 : Int32) (p3 : Int32) : Option (Int32 × wg_M) :=
  bd (f_X9_on M p2 p3) fun r2 =>
  lt_ (wg_sM M 55 15 p3) fun M3 =>
  ck (inb p2 8) <|
  lt_ (wg_sM M3 55 16 (M3.1 62 p2.toNatClampNeg)) fun M6 =>
  ck (inb p2 8) <|
  lt_ (wg_sM M6 55 17 (M6.1 61 p2.toNatClampNeg)) fun M9 =>
  bd (f_X9_isDay r2) fun r12 =>
  if r12 = 0 then (
    f_X9_says_j53 N M9  p1 p2 (0 : Int32))
  else (
    ck (inb r2 32) <|
    f_X9_says_j53 N M9  p1 p2 (M9.1 59 r2.toNatClampNeg))
abbrev G_X9_says (p : Program) (l : Launch) (e : Env) (s : State) (m : MethodId) (args : Array Value) (below : List Frame) (meth : Method) (c : Code) (E : wg_Ev) (ad : Nat → Nat) (S : wg_Sh) (r0 : Int32) (C0 : wg_C) (M0 : wg_M) (pc : Nat) (C : wg_C) (M : wg_M) (lv : List (Nat × Value)) (st : List Value) : Prop := wg_G p l e (wg_Rm 75 2929) s m args below meth c (MQ below (wg_Qi E ad S r0 C0 M0) args s 0 0 (wg_A E)) 5 E ad S 0 0 pc C M lv st
set_option maxHeartbeats 4000000 in
set_option maxRecDepth 100000 in
theorem J_X9_says_j53 {p : Program} {l : Launch} {e : Env} {s : State} {m : MethodId} {args : Array Value} {below : List Frame} {meth : Method} {c : Code} {E : wg_Ev} {ad : Nat → Nat} {S : wg_Sh} (X : wg_X p s m args meth c cX9_says 5 RX9 E) (hr : meth.sig.returnType = (some .int)) (hS : wg_SM S) (r0 : Int32) (D0 : wg_M) (C : wg_C) (N : Nat)  (M : wg_M)  (x1 : Int32) (x2 : Int32) (s0 : Int32)   (h : f_X9_says_j53 N M  x1 x2 s0 = some (r0, D0)) : G_X9_says p l e s m args below meth c E ad S r0 C D0 53 C M [(0, .ref (ad 55)), (1, .int x1), (2, .int x2)] [.int s0, .ref (ad 55)] := by
  unfold f_X9_says_j53 at h
  obtain ⟨M14, e15, h⟩ := lt_some h
  refine wg_putMe X cl9 (SMi hS 55 9 rfl) 18 (by decide) dX9_says_53 k_900 rfl rfl rfl rfl e15 ?_
  refine wg_aload_n X 0 dX9_says_56 rfl rfl ?_
  refine wg_iload_n X 2 dX9_says_57 rfl rfl ?_
  obtain ⟨M16, e17, h⟩ := lt_some h
  refine wg_putMe X cl9 (SMi hS 55 9 rfl) 19 (by decide) dX9_says_58 k_901 rfl rfl rfl rfl e17 ?_
  refine wg_aload_n X 0 dX9_says_61 rfl rfl ?_
  refine wg_aload_n X 0 dX9_says_62 rfl rfl ?_
  refine wg_getR (b := 63) X cl9 (SMi hS 55 9 rfl) 11 (by decide) dX9_says_63 k_893 rfl (SMr hS 11 63 rfl) ?_
  refine wg_iload_n X 2 dX9_says_66 rfl rfl ?_
  obtain ⟨z18, h⟩ := ck_some h
  refine wg_mald X (SMi hS 63 11 rfl) (SMl hS 63 8 rfl) z18 dX9_says_67 ?_
  obtain ⟨M19, e20, h⟩ := lt_some h
  refine wg_putMe X cl9 (SMi hS 55 9 rfl) 20 (by decide) dX9_says_68 k_902 rfl rfl rfl rfl e20 ?_
  refine wg_aload_n X 0 dX9_says_71 rfl rfl ?_
  refine wg_aload_n X 0 dX9_says_72 rfl rfl ?_
  refine wg_getM X cl9 (SMi hS 55 9 rfl) 4 (by decide) dX9_says_73 k_886 rfl ?_
  refine wg_iload_n X 1 dX9_says_76 rfl rfl ?_
  obtain ⟨r22, M23, h21, h⟩ := bd2_some h
  refine wg_callVi (As := [.int (M19.1 55 4), .int x1]) (rest := []) X (c_X9_read l E ad S hS N C M19 (M19.1 55 4) x1  h21) T_yX9_read k_1079 cl9 (SMi hS 55 9 rfl) dX9_says_77 rfl rfl (Nat.le_of_ble_eq_true rfl) ⟨Nat.le_of_ble_eq_true rfl, Nat.le_of_ble_eq_true rfl⟩ ⟨Nat.zero_le _, Nat.zero_le _⟩ ?_
  refine wg_iload_n X 1 dX9_says_80 rfl rfl ?_
  refine wg_if_ne X 88 dX9_says_81 (by decide) (fun c24 => ?_) (fun c24 => ?_)
  · have h := if_f c24 h
    refine wg_iconst (v := 0) X dX9_says_88 (by decide) ?_
    refine wg_bipush (v := 99) X dX9_says_89 (by decide) ?_
    obtain ⟨r26, h25, h⟩ := bd_some h
    refine wg_callSi (As := [.int r22, .int (0 : Int32), .int (99 : Int32)]) (rest := []) X (c_X9_within l E ad S C M23 r22 (0 : Int32) (99 : Int32)  h25) T_yX9_within k_1170 dX9_says_91 rfl rfl (Nat.le_of_ble_eq_true rfl) ⟨Nat.le_of_ble_eq_true rfl, Nat.le_of_ble_eq_true rfl⟩ ⟨Nat.zero_le _, Nat.zero_le _⟩ ?_
    exact wg_iret X ⟨(Prod.mk.inj (sm_inj h)).1, rfl, (Prod.mk.inj (sm_inj h)).2⟩ hr dX9_says_94
  · have h := if_t c24 h
    refine wg_iconst (v := 1) X dX9_says_84 (by decide) ?_
    refine wg_goto X 89 dX9_says_85 (by decide) ?_
    refine wg_bipush (v := 99) X dX9_says_89 (by decide) ?_
    obtain ⟨r28, h27, h⟩ := bd_some h
    refine wg_callSi (As := [.int r22, .int (1 : Int32), .int (99 : Int32)]) (rest := []) X (c_X9_within l E ad S C M23 r22 (1 : Int32) (99 : Int32)  h27) T_yX9_within k_1170 dX9_says_91 rfl rfl (Nat.le_of_ble_eq_true rfl) ⟨Nat.le_of_ble_eq_true rfl, Nat.le_of_ble_eq_true rfl⟩ ⟨Nat.zero_le _, Nat.zero_le _⟩ ?_
    exact wg_iret X ⟨(Prod.mk.inj (sm_inj h)).1, rfl, (Prod.mk.inj (sm_inj h)).2⟩ hr dX9_says_94
set_option maxHeartbeats 4000000 in
set_option maxRecDepth 100000 in
theorem c_X9_says (l : Launch) (E : wg_Ev) (ad : Nat → Nat) (S : wg_Sh) (hS : wg_SM S) (N : Nat) (C : wg_C) (M : wg_M) (p1 : Int32) (p2 : Int32) (p3 : Int32)  {r0 : Int32} {D0 : wg_M} (h : f_X9_says N M p1 p2 p3 = some (r0, D0)) : wg_Ci l yX9_says cX9_says 5 (some .int) 75 2929 E ad S C M [.ref (ad 55), .int p1, .int p2, .int p3] r0 C D0 := by
  refine wg_start (own := RX9) (by decide +kernel) rfl (Nat.le_of_ble_eq_true rfl) ?_
  intro p e s m below meth c X hr hnm
  refine wg_lv (lv' := [(0, .ref (ad 55)), (1, .int p1), (2, .int p2), (3, .int p3)]) rfl ?_
  unfold f_X9_says at h
  refine wg_aload_n X 0 dX9_says_0 rfl rfl ?_
  refine wg_iload_n X 2 dX9_says_1 rfl rfl ?_
  refine wg_iload_n X 3 dX9_says_2 rfl rfl ?_
  obtain ⟨r2, h1, h⟩ := bd_some h
  refine wg_callVi (As := [.int p2, .int p3]) (rest := []) X (c_X9_on l E ad S hS C M p2 p3  h1) T_yX9_on k_1062 cl9 (SMi hS 55 9 rfl) dX9_says_3 rfl rfl (Nat.le_of_ble_eq_true rfl) ⟨Nat.le_of_ble_eq_true rfl, Nat.le_of_ble_eq_true rfl⟩ ⟨Nat.zero_le _, Nat.zero_le _⟩ ?_
  refine wg_istore (lv' := [(4, .int r2), (0, .ref (ad 55)), (1, .int p1), (2, .int p2), (3, .int p3)]) X dX9_says_6 rfl (by decide) rfl ?_
  refine wg_aload_n X 1 dX9_says_8 rfl rfl ?_
  refine wg_iload_n X 4 dX9_says_9 rfl rfl ?_
  obtain ⟨M3, e4, h⟩ := lt_some h
  refine wg_putMe X cl9 (SMi hS 55 9 rfl) 15 (by decide) dX9_says_10 k_897 rfl rfl rfl rfl e4 ?_
  refine wg_aload_n X 1 dX9_says_13 rfl rfl ?_
  refine wg_aload_n X 1 dX9_says_14 rfl rfl ?_
  refine wg_getR (b := 62) X cl9 (SMi hS 55 9 rfl) 10 (by decide) dX9_says_15 k_892 rfl (SMr hS 10 62 rfl) ?_
  refine wg_iload_n X 3 dX9_says_18 rfl rfl ?_
  obtain ⟨z5, h⟩ := ck_some h
  refine wg_mald X (SMi hS 62 11 rfl) (SMl hS 62 8 rfl) z5 dX9_says_19 ?_
  obtain ⟨M6, e7, h⟩ := lt_some h
  refine wg_putMe X cl9 (SMi hS 55 9 rfl) 16 (by decide) dX9_says_20 k_898 rfl rfl rfl rfl e7 ?_
  refine wg_aload_n X 1 dX9_says_23 rfl rfl ?_
  refine wg_aload_n X 1 dX9_says_24 rfl rfl ?_
  refine wg_getR (b := 61) X cl9 (SMi hS 55 9 rfl) 9 (by decide) dX9_says_25 k_891 rfl (SMr hS 9 61 rfl) ?_
  refine wg_iload_n X 3 dX9_says_28 rfl rfl ?_
  obtain ⟨z8, h⟩ := ck_some h
  refine wg_mald X (SMi hS 61 11 rfl) (SMl hS 61 8 rfl) z8 dX9_says_29 ?_
  obtain ⟨M9, e10, h⟩ := lt_some h
  refine wg_putMe X cl9 (SMi hS 55 9 rfl) 17 (by decide) dX9_says_30 k_899 rfl rfl rfl rfl e10 ?_
  refine wg_aload_n X 1 dX9_says_33 rfl rfl ?_
  refine wg_iload X 0 dX9_says_34 rfl ?_
  obtain ⟨r12, h11, h⟩ := bd_some h
  refine wg_callSi (As := [.int r2]) (rest := [.ref (ad 55)]) X (c_X9_isDay l E ad S C M9 r2  h11) T_yX9_isDay k_1024 dX9_says_36 rfl rfl (Nat.le_of_ble_eq_true rfl) ⟨Nat.le_of_ble_eq_true rfl, Nat.le_of_ble_eq_true rfl⟩ ⟨Nat.zero_le _, Nat.zero_le _⟩ ?_
  refine wg_if_eq X 52 dX9_says_39 (by decide) (fun c13 => ?_) (fun c13 => ?_)
  · have h := if_t c13 h
    refine wg_iconst (v := 0) X dX9_says_52 (by decide) ?_
    refine wg_pick [1, 2, 3] (lv' := [(0, .ref (ad 55)), (1, .int p1), (2, .int p2)]) rfl ?_
    exact J_X9_says_j53 X hr hS r0 D0 C N  M9  p1 p2 (0 : Int32)   h
  · have h := if_f c13 h
    refine wg_aload_n X 1 dX9_says_42 rfl rfl ?_
    refine wg_getR (b := 59) X cl9 (SMi hS 55 9 rfl) 7 (by decide) dX9_says_43 k_889 rfl (SMr hS 7 59 rfl) ?_
    refine wg_iload X 0 dX9_says_46 rfl ?_
    obtain ⟨z29, h⟩ := ck_some h
    refine wg_mald X (SMi hS 59 11 rfl) (SMl hS 59 32 rfl) z29 dX9_says_48 ?_
    refine wg_goto X 53 dX9_says_49 (by decide) ?_
    refine wg_pick [1, 2, 3] (lv' := [(0, .ref (ad 55)), (1, .int p1), (2, .int p2)]) rfl ?_
    exact J_X9_says_j53 X hr hS r0 D0 C N  M9  p1 p2 (M9.1 59 r2.toNatClampNeg)   h
-- WindowsGiveModel.eases(II)Z (('c', 55), 'i', 'i')
def f_X9_eases (M : wg_M) (p1 : Int32) (p2 : Int32) : Option (Int32 × wg_M) :=
  ck (inb p1 192) <|
  if p2 < (M.1 65 p1.toNatClampNeg) then (
    ck (inb p1 192) <|
    lt_ (wg_sM M 65 p1.toNatClampNeg p2) fun M4 =>
    some ((1 : Int32), M4))
  else (
    some ((0 : Int32), M))
set_option maxHeartbeats 4000000 in
set_option maxRecDepth 100000 in
theorem c_X9_eases (l : Launch) (E : wg_Ev) (ad : Nat → Nat) (S : wg_Sh) (hS : wg_SM S) (C : wg_C) (M : wg_M) (p1 : Int32) (p2 : Int32)  {r0 : Int32} {D0 : wg_M} (h : f_X9_eases M p1 p2 = some (r0, D0)) : wg_Ci l yX9_eases cX9_eases 3 (some .boolean) 0 0 E ad S C M [.ref (ad 55), .int p1, .int p2] r0 C D0 := by
  refine wg_start (own := RX9) (by decide +kernel) rfl (Nat.le_of_ble_eq_true rfl) ?_
  intro p e s m below meth c X hr hnm
  refine wg_lv (lv' := [(0, .ref (ad 55)), (1, .int p1), (2, .int p2)]) rfl ?_
  unfold f_X9_eases at h
  refine wg_iload_n X 2 dX9_eases_0 rfl rfl ?_
  refine wg_aload_n X 0 dX9_eases_1 rfl rfl ?_
  refine wg_getR (b := 65) X cl9 (SMi hS 55 9 rfl) 30 (by decide) dX9_eases_2 k_912 rfl (SMr hS 30 65 rfl) ?_
  refine wg_iload_n X 1 dX9_eases_5 rfl rfl ?_
  obtain ⟨z1, h⟩ := ck_some h
  refine wg_mald X (SMi hS 65 11 rfl) (SMl hS 65 192 rfl) z1 dX9_eases_6 ?_
  refine wg_icmp_lt X 12 dX9_eases_7 (by decide) (fun c2 => ?_) (fun c2 => ?_)
  · have h := if_t c2 h
    refine wg_aload_n X 0 dX9_eases_12 rfl rfl ?_
    refine wg_getR (b := 65) X cl9 (SMi hS 55 9 rfl) 30 (by decide) dX9_eases_13 k_912 rfl (SMr hS 30 65 rfl) ?_
    refine wg_iload_n X 1 dX9_eases_16 rfl rfl ?_
    refine wg_iload_n X 2 dX9_eases_17 rfl rfl ?_
    obtain ⟨z3, h⟩ := ck_some h
    obtain ⟨M4, e5, h⟩ := lt_some h
    refine wg_maste X (SMi hS 65 11 rfl) (SMl hS 65 192 rfl) z3 dX9_eases_18 e5 ?_
    refine wg_iconst (v := 1) X dX9_eases_19 (by decide) ?_
    exact wg_zret X ⟨(Prod.mk.inj (sm_inj h)).1, rfl, (Prod.mk.inj (sm_inj h)).2⟩ hr (by decide) dX9_eases_20
  · have h := if_f c2 h
    refine wg_iconst (v := 0) X dX9_eases_10 (by decide) ?_
    exact wg_zret X ⟨(Prod.mk.inj (sm_inj h)).1, rfl, (Prod.mk.inj (sm_inj h)).2⟩ hr (by decide) dX9_eases_11
-- WindowsGiveModel.goesOn(IIZ)Z (('c', 55), 'i', 'i', 'i')
def f_X9_goesOn_j140l47 (N : Nat) (M : wg_M)  (x1 : Int32) (x2 : Int32) (x3 : Int32) (x4 : Int32) (x5 : Int32) (x6 : Int32) (x7 : Int32) (s0 : Int32) (s1 : Int32) (s2 : Int32) : Option ((wg_M × Int32 × Int32) ⊕ (wg_M × Int32 × Int32)) :=
  bd2 (f_X9_eases M s2 (s1 + s0)) fun r26 M27 =>
  if r26 = 0 then (
    if x6 = 0 then (
      lt_ (x7 + (1 : Int32)) fun v32 =>
      some (.inl (M27, (0 : Int32), v32)))
    else (
      lt_ (x7 + (1 : Int32)) fun v34 =>
      some (.inl (M27, (1 : Int32), v34))))
  else (
    lt_ (x7 + (1 : Int32)) fun v29 =>
    some (.inl (M27, (1 : Int32), v29)))
def f_X9_goesOn_l47 (N : Nat)  (x1 : Int32) (x2 : Int32) (x3 : Int32) (x4 : Int32) (x5 : Int32) (M : wg_M) (x6 : Int32) (x7 : Int32) : Option ((wg_M × Int32 × Int32) ⊕ (wg_M × Int32 × Int32)) :=
  if (M.1 55 13) ≤ x7 then (
    some (.inr (M, x6, x7)))
  else (
    if (((M.1 55 14) >>> (x7 &&& 31)) &&& (1 : Int32)) = 0 then (
      ck (inb x7 8) <|
      if (M.1 63 x7.toNatClampNeg) = x4 then (
        bd (f_X9_passes M x7 x5 x2) fun r15 =>
        if r15 = 0 then (
          lt_ (x7 + (1 : Int32)) fun v17 =>
          some (.inl (M, x6, v17)))
        else (
          bd (f_X9_leads M x7) fun r20 =>
          bd (f_X9_on M x7 x5) fun r22 =>
          ck (inb x1 192) <|
          if x3 = 0 then (
            f_X9_goesOn_j140l47 N M  x1 x2 x3 x4 x5 x6 x7 (10000 : Int32) (M.1 65 x1.toNatClampNeg) (((32 : Int32) * r20) + r22))
          else (
            ck (inb (((32 : Int32) * x7) + x5) 256) <|
            f_X9_goesOn_j140l47 N M  x1 x2 x3 x4 x5 x6 x7 (M.1 66 (((32 : Int32) * x7) + x5).toNatClampNeg) (M.1 65 x1.toNatClampNeg) (((32 : Int32) * r20) + r22))))
      else (
        lt_ (x7 + (1 : Int32)) fun v12 =>
        some (.inl (M, x6, v12))))
    else (
      lt_ (x7 + (1 : Int32)) fun v8 =>
      some (.inl (M, x6, v8))))
def f_X9_goesOn_j42 (N : Nat) (M : wg_M)  (x1 : Int32) (x2 : Int32) (x3 : Int32) (x4 : Int32) (x5 : Int32) (s0 : Int32) : Option (Int32 × wg_M) :=
  bd3 (lp (fun o => f_X9_goesOn_l47 N  x1 x2 x3 x4 x5 o.1 o.2.1 o.2.2) N (M, s0, (0 : Int32))) fun M37 v38 v39 =>
  ck (v38 = 0 ∨ v38 = 1) <|
  some (v38, M37)
def f_X9_goesOn (N : Nat) (M : wg_M) (p1 : Int32) (p2 : Int32) (p3 : Int32) : Option (Int32 × wg_M) :=
  lt_ (p1 / (32 : Int32)) fun v1 =>
  lt_ (p1 - p1 / (32 : Int32) * (32 : Int32)) fun v3 =>
  if (31 : Int32) ≤ v3 then (
    f_X9_goesOn_j42 N M  p1 p2 p3 v1 v3 (0 : Int32))
  else (
    ck (inb p1 192) <|
    bd2 (f_X9_eases M (p1 + (1 : Int32)) ((M.1 65 p1.toNatClampNeg) + (1 : Int32))) fun r47 M48 =>
    if r47 = 0 then (
      f_X9_goesOn_j42 N M48  p1 p2 p3 v1 v3 (0 : Int32))
    else (
      f_X9_goesOn_j42 N M48  p1 p2 p3 v1 v3 (1 : Int32)))
abbrev G_X9_goesOn (p : Program) (l : Launch) (e : Env) (s : State) (m : MethodId) (args : Array Value) (below : List Frame) (meth : Method) (c : Code) (E : wg_Ev) (ad : Nat → Nat) (S : wg_Sh) (r0 : Int32) (C0 : wg_C) (M0 : wg_M) (pc : Nat) (C : wg_C) (M : wg_M) (lv : List (Nat × Value)) (st : List Value) : Prop := wg_G p l e (wg_Rm 3 69) s m args below meth c (MQ below (wg_Qi E ad S r0 C0 M0) args s 0 0 (wg_A E)) 8 E ad S 0 0 pc C M lv st
set_option maxHeartbeats 4000000 in
set_option maxRecDepth 100000 in
theorem J_X9_goesOn_j140l47 {p : Program} {l : Launch} {e : Env} {s : State} {m : MethodId} {args : Array Value} {below : List Frame} {meth : Method} {c : Code} {E : wg_Ev} {ad : Nat → Nat} {S : wg_Sh} (X : wg_X p s m args meth c cX9_goesOn 8 RX9 E) (hr : meth.sig.returnType = (some .boolean)) (hS : wg_SM S) (r0 : Int32) (D0 : wg_M) (C : wg_C) (N : Nat)  (M : wg_M)  (x1 : Int32) (x2 : Int32) (x3 : Int32) (x4 : Int32) (x5 : Int32) (x6 : Int32) (x7 : Int32) (s0 : Int32) (s1 : Int32) (s2 : Int32)  (y : ((wg_M × Int32 × Int32) ⊕ (wg_M × Int32 × Int32))) (Kc : ∀ (Dy : wg_M) (y6 : Int32) (y7 : Int32), y = Sum.inl (Dy, y6, y7) → G_X9_goesOn p l e s m args below meth c E ad S r0 C D0 47 C Dy [(0, .ref (ad 55)), (1, .int x1), (2, .int x2), (3, .int x3), (4, .int x4), (5, .int x5), (6, .int y6), (7, .int y7)] []) (Ke : ∀ (Dy : wg_M) (y6 : Int32) (y7 : Int32), y = Sum.inr ((Dy, y6, y7)) → G_X9_goesOn p l e s m args below meth c E ad S r0 C D0 165 C Dy [(0, .ref (ad 55)), (1, .int x1), (2, .int x2), (3, .int x3), (4, .int x4), (5, .int x5), (6, .int y6), (7, .int y7)] []) (h : f_X9_goesOn_j140l47 N M  x1 x2 x3 x4 x5 x6 x7 s0 s1 s2 = some y) : G_X9_goesOn p l e s m args below meth c E ad S r0 C D0 140 C M [(0, .ref (ad 55)), (1, .int x1), (2, .int x2), (3, .int x3), (4, .int x4), (5, .int x5), (6, .int x6), (7, .int x7)] [.int s0, .int s1, .int s2, .ref (ad 55)] := by
  unfold f_X9_goesOn_j140l47 at h
  refine wg_iadd X dX9_goesOn_140 ?_
  obtain ⟨r26, M27, h25, h⟩ := bd2_some h
  refine wg_callVi (As := [.int s2, .int (s1 + s0)]) (rest := []) X (c_X9_eases l E ad S hS C M s2 (s1 + s0)  h25) T_yX9_eases k_1178 cl9 (SMi hS 55 9 rfl) dX9_goesOn_141 rfl rfl (Nat.le_of_ble_eq_true rfl) ⟨Nat.le_of_ble_eq_true rfl, Nat.le_of_ble_eq_true rfl⟩ ⟨Nat.zero_le _, Nat.zero_le _⟩ ?_
  refine wg_if_ne X 152 dX9_goesOn_144 (by decide) (fun c28 => ?_) (fun c28 => ?_)
  · have h := if_f c28 h
    refine wg_iconst (v := 1) X dX9_goesOn_152 (by decide) ?_
    refine wg_goto X 157 dX9_goesOn_153 (by decide) ?_
    refine wg_istore (lv' := [(6, .int (1 : Int32)), (0, .ref (ad 55)), (1, .int x1), (2, .int x2), (3, .int x3), (4, .int x4), (5, .int x5), (7, .int x7)]) X dX9_goesOn_157 rfl (by decide) rfl ?_
    obtain ⟨v29, e30, h⟩ := lt_some h
    refine wg_iinc (lv' := [(7, .int v29), (6, .int (1 : Int32)), (0, .ref (ad 55)), (1, .int x1), (2, .int x2), (3, .int x3), (4, .int x4), (5, .int x5)]) X 7 dX9_goesOn_159 rfl e30 (by decide) rfl ?_
    refine wg_goto X 47 dX9_goesOn_162 (by decide) ?_
    refine wg_pick [2, 3, 4, 5, 6, 7, 1, 0] (lv' := [(0, .ref (ad 55)), (1, .int x1), (2, .int x2), (3, .int x3), (4, .int x4), (5, .int x5), (6, .int (1 : Int32)), (7, .int v29)]) rfl ?_
    exact Kc M27 (1 : Int32) v29 (sm_inj h).symm
  · have h := if_t c28 h
    refine wg_iload X 6 dX9_goesOn_147 rfl ?_
    refine wg_if_eq X 156 dX9_goesOn_149 (by decide) (fun c31 => ?_) (fun c31 => ?_)
    · have h := if_t c31 h
      refine wg_iconst (v := 0) X dX9_goesOn_156 (by decide) ?_
      refine wg_istore (lv' := [(6, .int (0 : Int32)), (0, .ref (ad 55)), (1, .int x1), (2, .int x2), (3, .int x3), (4, .int x4), (5, .int x5), (7, .int x7)]) X dX9_goesOn_157 rfl (by decide) rfl ?_
      obtain ⟨v32, e33, h⟩ := lt_some h
      refine wg_iinc (lv' := [(7, .int v32), (6, .int (0 : Int32)), (0, .ref (ad 55)), (1, .int x1), (2, .int x2), (3, .int x3), (4, .int x4), (5, .int x5)]) X 7 dX9_goesOn_159 rfl e33 (by decide) rfl ?_
      refine wg_goto X 47 dX9_goesOn_162 (by decide) ?_
      refine wg_pick [2, 3, 4, 5, 6, 7, 1, 0] (lv' := [(0, .ref (ad 55)), (1, .int x1), (2, .int x2), (3, .int x3), (4, .int x4), (5, .int x5), (6, .int (0 : Int32)), (7, .int v32)]) rfl ?_
      exact Kc M27 (0 : Int32) v32 (sm_inj h).symm
    · have h := if_f c31 h
      refine wg_iconst (v := 1) X dX9_goesOn_152 (by decide) ?_
      refine wg_goto X 157 dX9_goesOn_153 (by decide) ?_
      refine wg_istore (lv' := [(6, .int (1 : Int32)), (0, .ref (ad 55)), (1, .int x1), (2, .int x2), (3, .int x3), (4, .int x4), (5, .int x5), (7, .int x7)]) X dX9_goesOn_157 rfl (by decide) rfl ?_
      obtain ⟨v34, e35, h⟩ := lt_some h
      refine wg_iinc (lv' := [(7, .int v34), (6, .int (1 : Int32)), (0, .ref (ad 55)), (1, .int x1), (2, .int x2), (3, .int x3), (4, .int x4), (5, .int x5)]) X 7 dX9_goesOn_159 rfl e35 (by decide) rfl ?_
      refine wg_goto X 47 dX9_goesOn_162 (by decide) ?_
      refine wg_pick [2, 3, 4, 5, 6, 7, 1, 0] (lv' := [(0, .ref (ad 55)), (1, .int x1), (2, .int x2), (3, .int x3), (4, .int x4), (5, .int x5), (6, .int (1 : Int32)), (7, .int v34)]) rfl ?_
      exact Kc M27 (1 : Int32) v34 (sm_inj h).symm
set_option maxHeartbeats 4000000 in
set_option maxRecDepth 100000 in
theorem L_X9_goesOn_l47 {p : Program} {l : Launch} {e : Env} {s : State} {m : MethodId} {args : Array Value} {below : List Frame} {meth : Method} {c : Code} {E : wg_Ev} {ad : Nat → Nat} {S : wg_Sh} (X : wg_X p s m args meth c cX9_goesOn 8 RX9 E) (hr : meth.sig.returnType = (some .boolean)) (hS : wg_SM S) (r0 : Int32) (D0 : wg_M) (C : wg_C) (N : Nat)   (x1 : Int32) (x2 : Int32) (x3 : Int32) (x4 : Int32) (x5 : Int32)  : ∀ (n : Nat) (M : wg_M) (x6 : Int32) (x7 : Int32) (o : (wg_M × Int32 × Int32)), lp (fun o => f_X9_goesOn_l47 N  x1 x2 x3 x4 x5 o.1 o.2.1 o.2.2) n (M, x6, x7) = some o → (∀ (Dy : wg_M) (y6 : Int32) (y7 : Int32), o = (Dy, y6, y7) → G_X9_goesOn p l e s m args below meth c E ad S r0 C D0 165 C Dy [(0, .ref (ad 55)), (1, .int x1), (2, .int x2), (3, .int x3), (4, .int x4), (5, .int x5), (6, .int y6), (7, .int y7)] []) → G_X9_goesOn p l e s m args below meth c E ad S r0 C D0 47 C M [(0, .ref (ad 55)), (1, .int x1), (2, .int x2), (3, .int x3), (4, .int x4), (5, .int x5), (6, .int x6), (7, .int x7)] [] := by
  intro n
  induction n with
  | zero => exact fun _ _ _ o h => (lp_zero h).elim
  | succ n ih =>
    intro M x6 x7 o h K
    obtain ⟨o1, hb, h2⟩ := lp_some h
    replace hb : f_X9_goesOn_l47 N  x1 x2 x3 x4 x5 M x6 x7 = some o1 := hb
    clear h
    have Kc : ∀ (Dy : wg_M) (y6 : Int32) (y7 : Int32), o1 = Sum.inl (Dy, y6, y7) → G_X9_goesOn p l e s m args below meth c E ad S r0 C D0 47 C Dy [(0, .ref (ad 55)), (1, .int x1), (2, .int x2), (3, .int x3), (4, .int x4), (5, .int x5), (6, .int y6), (7, .int y7)] [] := fun Dy y6 y7 e1 => by
      subst e1
      exact ih Dy y6 y7 o h2 K
    have Ke : ∀ (Dy : wg_M) (y6 : Int32) (y7 : Int32), o1 = Sum.inr ((Dy, y6, y7)) → G_X9_goesOn p l e s m args below meth c E ad S r0 C D0 165 C Dy [(0, .ref (ad 55)), (1, .int x1), (2, .int x2), (3, .int x3), (4, .int x4), (5, .int x5), (6, .int y6), (7, .int y7)] [] := fun Dy y6 y7 e1 => by
      subst e1
      exact K Dy y6 y7 (sm_inj (α := (wg_M × Int32 × Int32)) h2).symm
    clear ih K h2
    unfold f_X9_goesOn_l47 at hb
    have h := hb
    clear hb
    refine wg_iload X 7 dX9_goesOn_47 rfl ?_
    refine wg_aload_n X 0 dX9_goesOn_49 rfl rfl ?_
    refine wg_getM X cl9 (SMi hS 55 9 rfl) 13 (by decide) dX9_goesOn_50 k_895 rfl ?_
    refine wg_icmp_ge X 165 dX9_goesOn_53 (by decide) (fun c6 => ?_) (fun c6 => ?_)
    · have h := if_t c6 h
      exact Ke M x6 x7 (sm_inj h).symm
    · have h := if_f c6 h
      refine wg_aload_n X 0 dX9_goesOn_56 rfl rfl ?_
      refine wg_getM X cl9 (SMi hS 55 9 rfl) 14 (by decide) dX9_goesOn_57 k_896 rfl ?_
      refine wg_iload X 7 dX9_goesOn_60 rfl ?_
      refine wg_ishr X dX9_goesOn_62 ?_
      refine wg_iconst (v := 1) X dX9_goesOn_63 (by decide) ?_
      refine wg_iand X dX9_goesOn_64 ?_
      refine wg_if_ne X 159 dX9_goesOn_65 (by decide) (fun c7 => ?_) (fun c7 => ?_)
      · have h := if_f c7 h
        obtain ⟨v8, e9, h⟩ := lt_some h
        refine wg_iinc (lv' := [(7, .int v8), (0, .ref (ad 55)), (1, .int x1), (2, .int x2), (3, .int x3), (4, .int x4), (5, .int x5), (6, .int x6)]) X 7 dX9_goesOn_159 rfl e9 (by decide) rfl ?_
        refine wg_goto X 47 dX9_goesOn_162 (by decide) ?_
        refine wg_pick [1, 2, 3, 4, 5, 6, 7, 0] (lv' := [(0, .ref (ad 55)), (1, .int x1), (2, .int x2), (3, .int x3), (4, .int x4), (5, .int x5), (6, .int x6), (7, .int v8)]) rfl ?_
        exact Kc M x6 v8 (sm_inj h).symm
      · have h := if_t c7 h
        refine wg_aload_n X 0 dX9_goesOn_68 rfl rfl ?_
        refine wg_getR (b := 63) X cl9 (SMi hS 55 9 rfl) 11 (by decide) dX9_goesOn_69 k_893 rfl (SMr hS 11 63 rfl) ?_
        refine wg_iload X 7 dX9_goesOn_72 rfl ?_
        obtain ⟨z10, h⟩ := ck_some h
        refine wg_mald X (SMi hS 63 11 rfl) (SMl hS 63 8 rfl) z10 dX9_goesOn_74 ?_
        refine wg_iload X 4 dX9_goesOn_75 rfl ?_
        refine wg_icmp_ne X 159 dX9_goesOn_77 (by decide) (fun c11 => ?_) (fun c11 => ?_)
        · have h := if_f c11 h
          obtain ⟨v12, e13, h⟩ := lt_some h
          refine wg_iinc (lv' := [(7, .int v12), (0, .ref (ad 55)), (1, .int x1), (2, .int x2), (3, .int x3), (4, .int x4), (5, .int x5), (6, .int x6)]) X 7 dX9_goesOn_159 rfl e13 (by decide) rfl ?_
          refine wg_goto X 47 dX9_goesOn_162 (by decide) ?_
          refine wg_pick [1, 2, 3, 4, 5, 6, 7, 0] (lv' := [(0, .ref (ad 55)), (1, .int x1), (2, .int x2), (3, .int x3), (4, .int x4), (5, .int x5), (6, .int x6), (7, .int v12)]) rfl ?_
          exact Kc M x6 v12 (sm_inj h).symm
        · have h := if_t c11 h
          refine wg_aload_n X 0 dX9_goesOn_80 rfl rfl ?_
          refine wg_iload X 7 dX9_goesOn_81 rfl ?_
          refine wg_iload X 5 dX9_goesOn_83 rfl ?_
          refine wg_iload_n X 2 dX9_goesOn_85 rfl rfl ?_
          obtain ⟨r15, h14, h⟩ := bd_some h
          refine wg_callVi (As := [.int x7, .int x5, .int x2]) (rest := []) X (c_X9_passes l E ad S hS C M x7 x5 x2  h14) T_yX9_passes k_1066 cl9 (SMi hS 55 9 rfl) dX9_goesOn_86 rfl rfl (Nat.le_of_ble_eq_true rfl) ⟨Nat.le_of_ble_eq_true rfl, Nat.le_of_ble_eq_true rfl⟩ ⟨Nat.zero_le _, Nat.zero_le _⟩ ?_
          refine wg_if_eq X 159 dX9_goesOn_89 (by decide) (fun c16 => ?_) (fun c16 => ?_)
          · have h := if_t c16 h
            obtain ⟨v17, e18, h⟩ := lt_some h
            refine wg_iinc (lv' := [(7, .int v17), (0, .ref (ad 55)), (1, .int x1), (2, .int x2), (3, .int x3), (4, .int x4), (5, .int x5), (6, .int x6)]) X 7 dX9_goesOn_159 rfl e18 (by decide) rfl ?_
            refine wg_goto X 47 dX9_goesOn_162 (by decide) ?_
            refine wg_pick [1, 2, 3, 4, 5, 6, 7, 0] (lv' := [(0, .ref (ad 55)), (1, .int x1), (2, .int x2), (3, .int x3), (4, .int x4), (5, .int x5), (6, .int x6), (7, .int v17)]) rfl ?_
            exact Kc M x6 v17 (sm_inj h).symm
          · have h := if_f c16 h
            refine wg_aload_n X 0 dX9_goesOn_92 rfl rfl ?_
            refine wg_bipush (v := 32) X dX9_goesOn_93 (by decide) ?_
            refine wg_aload_n X 0 dX9_goesOn_95 rfl rfl ?_
            refine wg_iload X 7 dX9_goesOn_96 rfl ?_
            obtain ⟨r20, h19, h⟩ := bd_some h
            refine wg_callVi (As := [.int x7]) (rest := [.int (32 : Int32), .ref (ad 55)]) X (c_X9_leads l E ad S hS C M x7  h19) T_yX9_leads k_1040 cl9 (SMi hS 55 9 rfl) dX9_goesOn_98 rfl rfl (Nat.le_of_ble_eq_true rfl) ⟨Nat.le_of_ble_eq_true rfl, Nat.le_of_ble_eq_true rfl⟩ ⟨Nat.zero_le _, Nat.zero_le _⟩ ?_
            refine wg_imul X dX9_goesOn_101 ?_
            refine wg_aload_n X 0 dX9_goesOn_102 rfl rfl ?_
            refine wg_iload X 7 dX9_goesOn_103 rfl ?_
            refine wg_iload X 5 dX9_goesOn_105 rfl ?_
            obtain ⟨r22, h21, h⟩ := bd_some h
            refine wg_callVi (As := [.int x7, .int x5]) (rest := [.int ((32 : Int32) * r20), .ref (ad 55)]) X (c_X9_on l E ad S hS C M x7 x5  h21) T_yX9_on k_1062 cl9 (SMi hS 55 9 rfl) dX9_goesOn_107 rfl rfl (Nat.le_of_ble_eq_true rfl) ⟨Nat.le_of_ble_eq_true rfl, Nat.le_of_ble_eq_true rfl⟩ ⟨Nat.zero_le _, Nat.zero_le _⟩ ?_
            refine wg_iadd X dX9_goesOn_110 ?_
            refine wg_aload_n X 0 dX9_goesOn_111 rfl rfl ?_
            refine wg_getR (b := 65) X cl9 (SMi hS 55 9 rfl) 30 (by decide) dX9_goesOn_112 k_912 rfl (SMr hS 30 65 rfl) ?_
            refine wg_iload_n X 1 dX9_goesOn_115 rfl rfl ?_
            obtain ⟨z23, h⟩ := ck_some h
            refine wg_mald X (SMi hS 65 11 rfl) (SMl hS 65 192 rfl) z23 dX9_goesOn_116 ?_
            refine wg_iload_n X 3 dX9_goesOn_117 rfl rfl ?_
            refine wg_if_eq X 137 dX9_goesOn_118 (by decide) (fun c24 => ?_) (fun c24 => ?_)
            · have h := if_t c24 h
              refine wg_sipush (v := 10000) X dX9_goesOn_137 (by decide) ?_
              exact J_X9_goesOn_j140l47 X hr hS r0 D0 C N  M  x1 x2 x3 x4 x5 x6 x7 (10000 : Int32) (M.1 65 x1.toNatClampNeg) (((32 : Int32) * r20) + r22)  _ Kc Ke h
            · have h := if_f c24 h
              refine wg_aload_n X 0 dX9_goesOn_121 rfl rfl ?_
              refine wg_getR (b := 66) X cl9 (SMi hS 55 9 rfl) 31 (by decide) dX9_goesOn_122 k_913 rfl (SMr hS 31 66 rfl) ?_
              refine wg_bipush (v := 32) X dX9_goesOn_125 (by decide) ?_
              refine wg_iload X 7 dX9_goesOn_127 rfl ?_
              refine wg_imul X dX9_goesOn_129 ?_
              refine wg_iload X 5 dX9_goesOn_130 rfl ?_
              refine wg_iadd X dX9_goesOn_132 ?_
              obtain ⟨z36, h⟩ := ck_some h
              refine wg_mald X (SMi hS 66 11 rfl) (SMl hS 66 256 rfl) z36 dX9_goesOn_133 ?_
              refine wg_goto X 140 dX9_goesOn_134 (by decide) ?_
              exact J_X9_goesOn_j140l47 X hr hS r0 D0 C N  M  x1 x2 x3 x4 x5 x6 x7 (M.1 66 (((32 : Int32) * x7) + x5).toNatClampNeg) (M.1 65 x1.toNatClampNeg) (((32 : Int32) * r20) + r22)  _ Kc Ke h
set_option maxHeartbeats 4000000 in
set_option maxRecDepth 100000 in
theorem J_X9_goesOn_j42 {p : Program} {l : Launch} {e : Env} {s : State} {m : MethodId} {args : Array Value} {below : List Frame} {meth : Method} {c : Code} {E : wg_Ev} {ad : Nat → Nat} {S : wg_Sh} (X : wg_X p s m args meth c cX9_goesOn 8 RX9 E) (hr : meth.sig.returnType = (some .boolean)) (hS : wg_SM S) (r0 : Int32) (D0 : wg_M) (C : wg_C) (N : Nat)  (M : wg_M)  (x1 : Int32) (x2 : Int32) (x3 : Int32) (x4 : Int32) (x5 : Int32) (s0 : Int32)   (h : f_X9_goesOn_j42 N M  x1 x2 x3 x4 x5 s0 = some (r0, D0)) : G_X9_goesOn p l e s m args below meth c E ad S r0 C D0 42 C M [(0, .ref (ad 55)), (1, .int x1), (2, .int x2), (3, .int x3), (4, .int x4), (5, .int x5)] [.int s0] := by
  unfold f_X9_goesOn_j42 at h
  refine wg_istore (lv' := [(6, .int s0), (0, .ref (ad 55)), (1, .int x1), (2, .int x2), (3, .int x3), (4, .int x4), (5, .int x5)]) X dX9_goesOn_42 rfl (by decide) rfl ?_
  refine wg_iconst (v := 0) X dX9_goesOn_44 (by decide) ?_
  refine wg_istore (lv' := [(7, .int (0 : Int32)), (6, .int s0), (0, .ref (ad 55)), (1, .int x1), (2, .int x2), (3, .int x3), (4, .int x4), (5, .int x5)]) X dX9_goesOn_45 rfl (by decide) rfl ?_
  obtain ⟨o40, h41, h⟩ := bd3_o h
  refine wg_pick [2, 3, 4, 5, 6, 7, 1, 0] (lv' := [(0, .ref (ad 55)), (1, .int x1), (2, .int x2), (3, .int x3), (4, .int x4), (5, .int x5), (6, .int s0), (7, .int (0 : Int32))]) rfl ?_
  refine L_X9_goesOn_l47 X hr hS r0 D0 C N   x1 x2 x3 x4 x5  N M s0 (0 : Int32) o40 h41 (fun M37 v38 v39 e43 => ?_)
  · subst e43
    replace h := bd3_in h
    refine wg_iload X 6 dX9_goesOn_165 rfl ?_
    obtain ⟨z44, h⟩ := ck_some h
    exact wg_zret X ⟨(Prod.mk.inj (sm_inj h)).1, rfl, (Prod.mk.inj (sm_inj h)).2⟩ hr z44 dX9_goesOn_167
set_option maxHeartbeats 4000000 in
set_option maxRecDepth 100000 in
theorem c_X9_goesOn (l : Launch) (E : wg_Ev) (ad : Nat → Nat) (S : wg_Sh) (hS : wg_SM S) (N : Nat) (C : wg_C) (M : wg_M) (p1 : Int32) (p2 : Int32) (p3 : Int32)  {r0 : Int32} {D0 : wg_M} (h : f_X9_goesOn N M p1 p2 p3 = some (r0, D0)) : wg_Ci l yX9_goesOn cX9_goesOn 8 (some .boolean) 3 69 E ad S C M [.ref (ad 55), .int p1, .int p2, .int p3] r0 C D0 := by
  refine wg_start (own := RX9) (by decide +kernel) rfl (Nat.le_of_ble_eq_true rfl) ?_
  intro p e s m below meth c X hr hnm
  refine wg_lv (lv' := [(0, .ref (ad 55)), (1, .int p1), (2, .int p2), (3, .int p3)]) rfl ?_
  unfold f_X9_goesOn at h
  refine wg_iload_n X 1 dX9_goesOn_0 rfl rfl ?_
  refine wg_bipush (v := 32) X dX9_goesOn_1 (by decide) ?_
  refine wg_idiv X dX9_goesOn_3 (by decide) ?_
  obtain ⟨v1, e2, h⟩ := lt_some h
  refine wg_istore (lv' := [(4, .int v1), (0, .ref (ad 55)), (1, .int p1), (2, .int p2), (3, .int p3)]) X dX9_goesOn_4 e2 (by decide) rfl ?_
  refine wg_iload_n X 2 dX9_goesOn_6 rfl rfl ?_
  refine wg_bipush (v := 32) X dX9_goesOn_7 (by decide) ?_
  refine wg_irem X dX9_goesOn_9 (by decide) ?_
  obtain ⟨v3, e4, h⟩ := lt_some h
  refine wg_istore (lv' := [(5, .int v3), (4, .int v1), (0, .ref (ad 55)), (1, .int p1), (2, .int p2), (3, .int p3)]) X dX9_goesOn_10 e4 (by decide) rfl ?_
  refine wg_iload X 0 dX9_goesOn_12 rfl ?_
  refine wg_bipush (v := 31) X dX9_goesOn_14 (by decide) ?_
  refine wg_icmp_ge X 41 dX9_goesOn_16 (by decide) (fun c5 => ?_) (fun c5 => ?_)
  · have h := if_t c5 h
    refine wg_iconst (v := 0) X dX9_goesOn_41 (by decide) ?_
    refine wg_pick [2, 3, 4, 5, 1, 0] (lv' := [(0, .ref (ad 55)), (1, .int p1), (2, .int p2), (3, .int p3), (4, .int v1), (5, .int v3)]) rfl ?_
    exact J_X9_goesOn_j42 X hr hS r0 D0 C N  M  p1 p2 p3 v1 v3 (0 : Int32)   h
  · have h := if_f c5 h
    refine wg_aload_n X 2 dX9_goesOn_19 rfl rfl ?_
    refine wg_iload_n X 3 dX9_goesOn_20 rfl rfl ?_
    refine wg_iconst (v := 1) X dX9_goesOn_21 (by decide) ?_
    refine wg_iadd X dX9_goesOn_22 ?_
    refine wg_aload_n X 2 dX9_goesOn_23 rfl rfl ?_
    refine wg_getR (b := 65) X cl9 (SMi hS 55 9 rfl) 30 (by decide) dX9_goesOn_24 k_912 rfl (SMr hS 30 65 rfl) ?_
    refine wg_iload_n X 3 dX9_goesOn_27 rfl rfl ?_
    obtain ⟨z45, h⟩ := ck_some h
    refine wg_mald X (SMi hS 65 11 rfl) (SMl hS 65 192 rfl) z45 dX9_goesOn_28 ?_
    refine wg_iconst (v := 1) X dX9_goesOn_29 (by decide) ?_
    refine wg_iadd X dX9_goesOn_30 ?_
    obtain ⟨r47, M48, h46, h⟩ := bd2_some h
    refine wg_callVi (As := [.int (p1 + (1 : Int32)), .int ((M.1 65 p1.toNatClampNeg) + (1 : Int32))]) (rest := []) X (c_X9_eases l E ad S hS C M (p1 + (1 : Int32)) ((M.1 65 p1.toNatClampNeg) + (1 : Int32))  h46) T_yX9_eases k_1178 cl9 (SMi hS 55 9 rfl) dX9_goesOn_31 rfl rfl (Nat.le_of_ble_eq_true rfl) ⟨Nat.le_of_ble_eq_true rfl, Nat.le_of_ble_eq_true rfl⟩ ⟨Nat.zero_le _, Nat.zero_le _⟩ ?_
    refine wg_if_eq X 41 dX9_goesOn_34 (by decide) (fun c49 => ?_) (fun c49 => ?_)
    · have h := if_t c49 h
      refine wg_iconst (v := 0) X dX9_goesOn_41 (by decide) ?_
      refine wg_pick [2, 3, 4, 5, 1, 0] (lv' := [(0, .ref (ad 55)), (1, .int p1), (2, .int p2), (3, .int p3), (4, .int v1), (5, .int v3)]) rfl ?_
      exact J_X9_goesOn_j42 X hr hS r0 D0 C N  M48  p1 p2 p3 v1 v3 (0 : Int32)   h
    · have h := if_f c49 h
      refine wg_iconst (v := 1) X dX9_goesOn_37 (by decide) ?_
      refine wg_goto X 42 dX9_goesOn_38 (by decide) ?_
      refine wg_pick [2, 3, 4, 5, 1, 0] (lv' := [(0, .ref (ad 55)), (1, .int p1), (2, .int p2), (3, .int p3), (4, .int v1), (5, .int v3)]) rfl ?_
      exact J_X9_goesOn_j42 X hr hS r0 D0 C N  M48  p1 p2 p3 v1 v3 (1 : Int32)   h
-- WindowsGiveModel.spreads(IIZ)V (('c', 55), 'i', 'i', 'i')
def f_X9_spreads_l19 (N : Nat)  (x1 : Int32) (x2 : Int32) (x3 : Int32) (x4 : Int32) (M : wg_M) (x5 : Int32) : Option ((wg_M × Int32) ⊕ (wg_M × Int32)) :=
  if (32 : Int32) ≤ x5 then (
    some (.inr (M, x5)))
  else (
    bd2 (f_X9_says N M (0 : Int32) x4 x5) fun r5 M6 =>
    ck (inb (((32 : Int32) * x4) + x5) 256) <|
    lt_ (wg_sM M6 66 (((32 : Int32) * x4) + x5).toNatClampNeg r5) fun M8 =>
    lt_ (x5 + (1 : Int32)) fun v10 =>
    some (.inl (M8, v10)))
def f_X9_spreads_l3 (N : Nat)  (x1 : Int32) (x2 : Int32) (x3 : Int32) (M : wg_M) (x4 : Int32) : Option ((wg_M × Int32) ⊕ (wg_M × Int32)) :=
  if (M.1 55 13) ≤ x4 then (
    some (.inr (M, x4)))
  else (
    if x3 = 0 then (
      some (.inr (M, x4)))
    else (
      bd2 (lp (fun o => f_X9_spreads_l19 N  x1 x2 x3 x4 o.1 o.2) N (M, (0 : Int32))) fun M12 v13 =>
      lt_ (x4 + (1 : Int32)) fun v18 =>
      some (.inl (M12, v18))))
def f_X9_spreads_l63 (N : Nat)  (x1 : Int32) (x2 : Int32) (x3 : Int32) (M : wg_M) (x4 : Int32) : Option ((wg_M × Int32) ⊕ (wg_M × Int32)) :=
  if (192 : Int32) ≤ x4 then (
    some (.inr (M, x4)))
  else (
    ck (inb x4 192) <|
    lt_ (wg_sM M 65 x4.toNatClampNeg (99999999 : Int32)) fun M28 =>
    lt_ (x4 + (1 : Int32)) fun v30 =>
    some (.inl (M28, v30)))
def f_X9_spreads_l108 (N : Nat)  (x2 : Int32) (x3 : Int32) (M : wg_M) (x4 : Int32) (x5 : Int32) : Option ((wg_M × Int32 × Int32) ⊕ (wg_M × Int32 × Int32)) :=
  if (192 : Int32) ≤ x5 then (
    some (.inr (M, x4, x5)))
  else (
    ck (inb x5 192) <|
    if (99999999 : Int32) ≤ (M.1 65 x5.toNatClampNeg) then (
      lt_ (x5 + (1 : Int32)) fun v45 =>
      some (.inl (M, x4, v45)))
    else (
      bd2 (f_X9_goesOn N M x5 x2 x3) fun r48 M49 =>
      if r48 = 0 then (
        lt_ (x5 + (1 : Int32)) fun v51 =>
        some (.inl (M49, x4, v51)))
      else (
        lt_ (x5 + (1 : Int32)) fun v53 =>
        some (.inl (M49, (1 : Int32), v53)))))
def f_X9_spreads_l97 (N : Nat)  (x2 : Int32) (x3 : Int32) (M : wg_M) (x4 : Int32) : Option ((wg_M × Int32) ⊕ (wg_M × Int32)) :=
  if x4 = 0 then (
    some (.inr (M, x4)))
  else (
    bd3 (lp (fun o => f_X9_spreads_l108 N  x2 x3 o.1 o.2.1 o.2.2) N (M, (0 : Int32), (0 : Int32))) fun M55 v56 v57 =>
    some (.inl (M55, v56)))
def f_X9_spreads (N : Nat) (M : wg_M) (p1 : Int32) (p2 : Int32) (p3 : Int32) : Option wg_M :=
  bd2 (lp (fun o => f_X9_spreads_l3 N  p1 p2 p3 o.1 o.2) N (M, (0 : Int32))) fun M20 v21 =>
  bd2 (lp (fun o => f_X9_spreads_l63 N  p1 p2 p3 o.1 o.2) N (M20, (0 : Int32))) fun M32 v33 =>
  ck (inb p1 192) <|
  lt_ (wg_sM M32 65 p1.toNatClampNeg (0 : Int32)) fun M39 =>
  bd2 (lp (fun o => f_X9_spreads_l97 N  p2 p3 o.1 o.2) N (M39, (1 : Int32))) fun M62 v63 =>
  some M62
abbrev G_X9_spreads (p : Program) (l : Launch) (e : Env) (s : State) (m : MethodId) (args : Array Value) (below : List Frame) (meth : Method) (c : Code) (E : wg_Ev) (ad : Nat → Nat) (S : wg_Sh) (C0 : wg_C) (M0 : wg_M) (pc : Nat) (C : wg_C) (M : wg_M) (lv : List (Nat × Value)) (st : List Value) : Prop := wg_G p l e (wg_Rm 76 2953) s m args below meth c (MQ below (wg_Qv E ad S C0 M0) args s 0 0 (wg_A E)) 6 E ad S 0 0 pc C M lv st
set_option maxHeartbeats 4000000 in
set_option maxRecDepth 100000 in
theorem L_X9_spreads_l19 {p : Program} {l : Launch} {e : Env} {s : State} {m : MethodId} {args : Array Value} {below : List Frame} {meth : Method} {c : Code} {E : wg_Ev} {ad : Nat → Nat} {S : wg_Sh} (X : wg_X p s m args meth c cX9_spreads 6 RX9 E) (hr : meth.sig.returnType = none) (hS : wg_SM S) (D0 : wg_M) (C : wg_C) (N : Nat)   (x1 : Int32) (x2 : Int32) (x3 : Int32) (x4 : Int32)  : ∀ (n : Nat) (M : wg_M) (x5 : Int32) (o : (wg_M × Int32)), lp (fun o => f_X9_spreads_l19 N  x1 x2 x3 x4 o.1 o.2) n (M, x5) = some o → (∀ (Dy : wg_M) (y5 : Int32), o = (Dy, y5) → G_X9_spreads p l e s m args below meth c E ad S C D0 54 C Dy [(0, .ref (ad 55)), (1, .int x1), (2, .int x2), (3, .int x3), (4, .int x4), (5, .int y5)] []) → G_X9_spreads p l e s m args below meth c E ad S C D0 19 C M [(0, .ref (ad 55)), (1, .int x1), (2, .int x2), (3, .int x3), (4, .int x4), (5, .int x5)] [] := by
  intro n
  induction n with
  | zero => exact fun _ _ o h => (lp_zero h).elim
  | succ n ih =>
    intro M x5 o h K
    obtain ⟨o1, hb, h2⟩ := lp_some h
    replace hb : f_X9_spreads_l19 N  x1 x2 x3 x4 M x5 = some o1 := hb
    clear h
    have Kc : ∀ (Dy : wg_M) (y5 : Int32), o1 = Sum.inl (Dy, y5) → G_X9_spreads p l e s m args below meth c E ad S C D0 19 C Dy [(0, .ref (ad 55)), (1, .int x1), (2, .int x2), (3, .int x3), (4, .int x4), (5, .int y5)] [] := fun Dy y5 e1 => by
      subst e1
      exact ih Dy y5 o h2 K
    have Ke : ∀ (Dy : wg_M) (y5 : Int32), o1 = Sum.inr ((Dy, y5)) → G_X9_spreads p l e s m args below meth c E ad S C D0 54 C Dy [(0, .ref (ad 55)), (1, .int x1), (2, .int x2), (3, .int x3), (4, .int x4), (5, .int y5)] [] := fun Dy y5 e1 => by
      subst e1
      exact K Dy y5 (sm_inj (α := (wg_M × Int32)) h2).symm
    clear ih K h2
    unfold f_X9_spreads_l19 at hb
    have h := hb
    clear hb
    refine wg_iload X 5 dX9_spreads_19 rfl ?_
    refine wg_bipush (v := 32) X dX9_spreads_21 (by decide) ?_
    refine wg_icmp_ge X 54 dX9_spreads_23 (by decide) (fun c3 => ?_) (fun c3 => ?_)
    · have h := if_t c3 h
      exact Ke M x5 (sm_inj h).symm
    · have h := if_f c3 h
      refine wg_aload_n X 0 dX9_spreads_26 rfl rfl ?_
      refine wg_getR (b := 66) X cl9 (SMi hS 55 9 rfl) 31 (by decide) dX9_spreads_27 k_913 rfl (SMr hS 31 66 rfl) ?_
      refine wg_bipush (v := 32) X dX9_spreads_30 (by decide) ?_
      refine wg_iload X 4 dX9_spreads_32 rfl ?_
      refine wg_imul X dX9_spreads_34 ?_
      refine wg_iload X 5 dX9_spreads_35 rfl ?_
      refine wg_iadd X dX9_spreads_37 ?_
      refine wg_aload_n X 0 dX9_spreads_38 rfl rfl ?_
      refine wg_iconst (v := 0) X dX9_spreads_39 (by decide) ?_
      refine wg_iload X 4 dX9_spreads_40 rfl ?_
      refine wg_iload X 5 dX9_spreads_42 rfl ?_
      obtain ⟨r5, M6, h4, h⟩ := bd2_some h
      refine wg_callVi (As := [.int (0 : Int32), .int x4, .int x5]) (rest := [.int (((32 : Int32) * x4) + x5), .ref (ad 66)]) X (c_X9_says l E ad S hS N C M (0 : Int32) x4 x5  h4) T_yX9_says k_1166 cl9 (SMi hS 55 9 rfl) dX9_spreads_44 rfl rfl (Nat.le_of_ble_eq_true rfl) ⟨Nat.le_of_ble_eq_true rfl, Nat.le_of_ble_eq_true rfl⟩ ⟨Nat.zero_le _, Nat.zero_le _⟩ ?_
      obtain ⟨z7, h⟩ := ck_some h
      obtain ⟨M8, e9, h⟩ := lt_some h
      refine wg_maste X (SMi hS 66 11 rfl) (SMl hS 66 256 rfl) z7 dX9_spreads_47 e9 ?_
      obtain ⟨v10, e11, h⟩ := lt_some h
      refine wg_iinc (lv' := [(5, .int v10), (0, .ref (ad 55)), (1, .int x1), (2, .int x2), (3, .int x3), (4, .int x4)]) X 5 dX9_spreads_48 rfl e11 (by decide) rfl ?_
      refine wg_goto X 19 dX9_spreads_51 (by decide) ?_
      refine wg_pick [1, 2, 3, 4, 5, 0] (lv' := [(0, .ref (ad 55)), (1, .int x1), (2, .int x2), (3, .int x3), (4, .int x4), (5, .int v10)]) rfl ?_
      exact Kc M8 v10 (sm_inj h).symm
set_option maxHeartbeats 4000000 in
set_option maxRecDepth 100000 in
theorem L_X9_spreads_l3 {p : Program} {l : Launch} {e : Env} {s : State} {m : MethodId} {args : Array Value} {below : List Frame} {meth : Method} {c : Code} {E : wg_Ev} {ad : Nat → Nat} {S : wg_Sh} (X : wg_X p s m args meth c cX9_spreads 6 RX9 E) (hr : meth.sig.returnType = none) (hS : wg_SM S) (D0 : wg_M) (C : wg_C) (N : Nat)   (x1 : Int32) (x2 : Int32) (x3 : Int32)  : ∀ (n : Nat) (M : wg_M) (x4 : Int32) (o : (wg_M × Int32)), lp (fun o => f_X9_spreads_l3 N  x1 x2 x3 o.1 o.2) n (M, x4) = some o → (∀ (Dy : wg_M) (y4 : Int32), o = (Dy, y4) → G_X9_spreads p l e s m args below meth c E ad S C D0 60 C Dy [(0, .ref (ad 55)), (1, .int x1), (2, .int x2), (3, .int x3), (4, .int y4)] []) → G_X9_spreads p l e s m args below meth c E ad S C D0 3 C M [(0, .ref (ad 55)), (1, .int x1), (2, .int x2), (3, .int x3), (4, .int x4)] [] := by
  intro n
  induction n with
  | zero => exact fun _ _ o h => (lp_zero h).elim
  | succ n ih =>
    intro M x4 o h K
    obtain ⟨o1, hb, h2⟩ := lp_some h
    replace hb : f_X9_spreads_l3 N  x1 x2 x3 M x4 = some o1 := hb
    clear h
    have Kc : ∀ (Dy : wg_M) (y4 : Int32), o1 = Sum.inl (Dy, y4) → G_X9_spreads p l e s m args below meth c E ad S C D0 3 C Dy [(0, .ref (ad 55)), (1, .int x1), (2, .int x2), (3, .int x3), (4, .int y4)] [] := fun Dy y4 e1 => by
      subst e1
      exact ih Dy y4 o h2 K
    have Ke : ∀ (Dy : wg_M) (y4 : Int32), o1 = Sum.inr ((Dy, y4)) → G_X9_spreads p l e s m args below meth c E ad S C D0 60 C Dy [(0, .ref (ad 55)), (1, .int x1), (2, .int x2), (3, .int x3), (4, .int y4)] [] := fun Dy y4 e1 => by
      subst e1
      exact K Dy y4 (sm_inj (α := (wg_M × Int32)) h2).symm
    clear ih K h2
    unfold f_X9_spreads_l3 at hb
    have h := hb
    clear hb
    refine wg_iload X 4 dX9_spreads_3 rfl ?_
    refine wg_aload_n X 0 dX9_spreads_5 rfl rfl ?_
    refine wg_getM X cl9 (SMi hS 55 9 rfl) 13 (by decide) dX9_spreads_6 k_895 rfl ?_
    refine wg_icmp_ge X 60 dX9_spreads_9 (by decide) (fun c1 => ?_) (fun c1 => ?_)
    · have h := if_t c1 h
      exact Ke M x4 (sm_inj h).symm
    · have h := if_f c1 h
      refine wg_iload_n X 3 dX9_spreads_12 rfl rfl ?_
      refine wg_if_eq X 60 dX9_spreads_13 (by decide) (fun c2 => ?_) (fun c2 => ?_)
      · have h := if_t c2 h
        exact Ke M x4 (sm_inj h).symm
      · have h := if_f c2 h
        refine wg_iconst (v := 0) X dX9_spreads_16 (by decide) ?_
        refine wg_istore (lv' := [(5, .int (0 : Int32)), (0, .ref (ad 55)), (1, .int x1), (2, .int x2), (3, .int x3), (4, .int x4)]) X dX9_spreads_17 rfl (by decide) rfl ?_
        obtain ⟨o14, h15, h⟩ := bd2_o h
        refine wg_pick [1, 2, 3, 4, 5, 0] (lv' := [(0, .ref (ad 55)), (1, .int x1), (2, .int x2), (3, .int x3), (4, .int x4), (5, .int (0 : Int32))]) rfl ?_
        refine L_X9_spreads_l19 X hr hS D0 C N   x1 x2 x3 x4  N M (0 : Int32) o14 h15 (fun M12 v13 e17 => ?_)
        · subst e17
          replace h := bd2_in h
          obtain ⟨v18, e19, h⟩ := lt_some h
          refine wg_iinc (lv' := [(4, .int v18), (0, .ref (ad 55)), (1, .int x1), (2, .int x2), (3, .int x3), (5, .int v13)]) X 4 dX9_spreads_54 rfl e19 (by decide) rfl ?_
          refine wg_goto X 3 dX9_spreads_57 (by decide) ?_
          refine wg_pick [1, 2, 3, 4, 0] (lv' := [(0, .ref (ad 55)), (1, .int x1), (2, .int x2), (3, .int x3), (4, .int v18)]) rfl ?_
          exact Kc M12 v18 (sm_inj h).symm
set_option maxHeartbeats 4000000 in
set_option maxRecDepth 100000 in
theorem L_X9_spreads_l63 {p : Program} {l : Launch} {e : Env} {s : State} {m : MethodId} {args : Array Value} {below : List Frame} {meth : Method} {c : Code} {E : wg_Ev} {ad : Nat → Nat} {S : wg_Sh} (X : wg_X p s m args meth c cX9_spreads 6 RX9 E) (hr : meth.sig.returnType = none) (hS : wg_SM S) (D0 : wg_M) (C : wg_C) (N : Nat)   (x1 : Int32) (x2 : Int32) (x3 : Int32)  : ∀ (n : Nat) (M : wg_M) (x4 : Int32) (o : (wg_M × Int32)), lp (fun o => f_X9_spreads_l63 N  x1 x2 x3 o.1 o.2) n (M, x4) = some o → (∀ (Dy : wg_M) (y4 : Int32), o = (Dy, y4) → G_X9_spreads p l e s m args below meth c E ad S C D0 87 C Dy [(0, .ref (ad 55)), (1, .int x1), (2, .int x2), (3, .int x3), (4, .int y4)] []) → G_X9_spreads p l e s m args below meth c E ad S C D0 63 C M [(0, .ref (ad 55)), (1, .int x1), (2, .int x2), (3, .int x3), (4, .int x4)] [] := by
  intro n
  induction n with
  | zero => exact fun _ _ o h => (lp_zero h).elim
  | succ n ih =>
    intro M x4 o h K
    obtain ⟨o1, hb, h2⟩ := lp_some h
    replace hb : f_X9_spreads_l63 N  x1 x2 x3 M x4 = some o1 := hb
    clear h
    have Kc : ∀ (Dy : wg_M) (y4 : Int32), o1 = Sum.inl (Dy, y4) → G_X9_spreads p l e s m args below meth c E ad S C D0 63 C Dy [(0, .ref (ad 55)), (1, .int x1), (2, .int x2), (3, .int x3), (4, .int y4)] [] := fun Dy y4 e1 => by
      subst e1
      exact ih Dy y4 o h2 K
    have Ke : ∀ (Dy : wg_M) (y4 : Int32), o1 = Sum.inr ((Dy, y4)) → G_X9_spreads p l e s m args below meth c E ad S C D0 87 C Dy [(0, .ref (ad 55)), (1, .int x1), (2, .int x2), (3, .int x3), (4, .int y4)] [] := fun Dy y4 e1 => by
      subst e1
      exact K Dy y4 (sm_inj (α := (wg_M × Int32)) h2).symm
    clear ih K h2
    unfold f_X9_spreads_l63 at hb
    have h := hb
    clear hb
    refine wg_iload X 4 dX9_spreads_63 rfl ?_
    refine wg_sipush (v := 192) X dX9_spreads_65 (by decide) ?_
    refine wg_icmp_ge X 87 dX9_spreads_68 (by decide) (fun c26 => ?_) (fun c26 => ?_)
    · have h := if_t c26 h
      exact Ke M x4 (sm_inj h).symm
    · have h := if_f c26 h
      refine wg_aload_n X 0 dX9_spreads_71 rfl rfl ?_
      refine wg_getR (b := 65) X cl9 (SMi hS 55 9 rfl) 30 (by decide) dX9_spreads_72 k_912 rfl (SMr hS 30 65 rfl) ?_
      refine wg_iload X 4 dX9_spreads_75 rfl ?_
      refine wg_ldcw (v := 99999999) X dX9_spreads_77 k_1173 ?_
      obtain ⟨z27, h⟩ := ck_some h
      obtain ⟨M28, e29, h⟩ := lt_some h
      refine wg_maste X (SMi hS 65 11 rfl) (SMl hS 65 192 rfl) z27 dX9_spreads_80 e29 ?_
      obtain ⟨v30, e31, h⟩ := lt_some h
      refine wg_iinc (lv' := [(4, .int v30), (0, .ref (ad 55)), (1, .int x1), (2, .int x2), (3, .int x3)]) X 4 dX9_spreads_81 rfl e31 (by decide) rfl ?_
      refine wg_goto X 63 dX9_spreads_84 (by decide) ?_
      refine wg_pick [1, 2, 3, 4, 0] (lv' := [(0, .ref (ad 55)), (1, .int x1), (2, .int x2), (3, .int x3), (4, .int v30)]) rfl ?_
      exact Kc M28 v30 (sm_inj h).symm
set_option maxHeartbeats 4000000 in
set_option maxRecDepth 100000 in
theorem L_X9_spreads_l108 {p : Program} {l : Launch} {e : Env} {s : State} {m : MethodId} {args : Array Value} {below : List Frame} {meth : Method} {c : Code} {E : wg_Ev} {ad : Nat → Nat} {S : wg_Sh} (X : wg_X p s m args meth c cX9_spreads 6 RX9 E) (hr : meth.sig.returnType = none) (hS : wg_SM S) (D0 : wg_M) (C : wg_C) (N : Nat)   (x2 : Int32) (x3 : Int32)  : ∀ (n : Nat) (M : wg_M) (x4 : Int32) (x5 : Int32) (o : (wg_M × Int32 × Int32)), lp (fun o => f_X9_spreads_l108 N  x2 x3 o.1 o.2.1 o.2.2) n (M, x4, x5) = some o → (∀ (Dy : wg_M) (y4 : Int32) (y5 : Int32), o = (Dy, y4, y5) → G_X9_spreads p l e s m args below meth c E ad S C D0 149 C Dy [(0, .ref (ad 55)), (2, .int x2), (3, .int x3), (4, .int y4), (5, .int y5)] []) → G_X9_spreads p l e s m args below meth c E ad S C D0 108 C M [(0, .ref (ad 55)), (2, .int x2), (3, .int x3), (4, .int x4), (5, .int x5)] [] := by
  intro n
  induction n with
  | zero => exact fun _ _ _ o h => (lp_zero h).elim
  | succ n ih =>
    intro M x4 x5 o h K
    obtain ⟨o1, hb, h2⟩ := lp_some h
    replace hb : f_X9_spreads_l108 N  x2 x3 M x4 x5 = some o1 := hb
    clear h
    have Kc : ∀ (Dy : wg_M) (y4 : Int32) (y5 : Int32), o1 = Sum.inl (Dy, y4, y5) → G_X9_spreads p l e s m args below meth c E ad S C D0 108 C Dy [(0, .ref (ad 55)), (2, .int x2), (3, .int x3), (4, .int y4), (5, .int y5)] [] := fun Dy y4 y5 e1 => by
      subst e1
      exact ih Dy y4 y5 o h2 K
    have Ke : ∀ (Dy : wg_M) (y4 : Int32) (y5 : Int32), o1 = Sum.inr ((Dy, y4, y5)) → G_X9_spreads p l e s m args below meth c E ad S C D0 149 C Dy [(0, .ref (ad 55)), (2, .int x2), (3, .int x3), (4, .int y4), (5, .int y5)] [] := fun Dy y4 y5 e1 => by
      subst e1
      exact K Dy y4 y5 (sm_inj (α := (wg_M × Int32 × Int32)) h2).symm
    clear ih K h2
    unfold f_X9_spreads_l108 at hb
    have h := hb
    clear hb
    refine wg_iload X 4 dX9_spreads_108 rfl ?_
    refine wg_sipush (v := 192) X dX9_spreads_110 (by decide) ?_
    refine wg_icmp_ge X 149 dX9_spreads_113 (by decide) (fun c42 => ?_) (fun c42 => ?_)
    · have h := if_t c42 h
      exact Ke M x4 x5 (sm_inj h).symm
    · have h := if_f c42 h
      refine wg_aload_n X 0 dX9_spreads_116 rfl rfl ?_
      refine wg_getR (b := 65) X cl9 (SMi hS 55 9 rfl) 30 (by decide) dX9_spreads_117 k_912 rfl (SMr hS 30 65 rfl) ?_
      refine wg_iload X 4 dX9_spreads_120 rfl ?_
      obtain ⟨z43, h⟩ := ck_some h
      refine wg_mald X (SMi hS 65 11 rfl) (SMl hS 65 192 rfl) z43 dX9_spreads_122 ?_
      refine wg_ldcw (v := 99999999) X dX9_spreads_123 k_1173 ?_
      refine wg_icmp_ge X 143 dX9_spreads_126 (by decide) (fun c44 => ?_) (fun c44 => ?_)
      · have h := if_t c44 h
        obtain ⟨v45, e46, h⟩ := lt_some h
        refine wg_iinc (lv' := [(5, .int v45), (0, .ref (ad 55)), (2, .int x2), (3, .int x3), (4, .int x4)]) X 4 dX9_spreads_143 rfl e46 (by decide) rfl ?_
        refine wg_goto X 108 dX9_spreads_146 (by decide) ?_
        refine wg_pick [1, 2, 3, 4, 0] (lv' := [(0, .ref (ad 55)), (2, .int x2), (3, .int x3), (4, .int x4), (5, .int v45)]) rfl ?_
        exact Kc M x4 v45 (sm_inj h).symm
      · have h := if_f c44 h
        refine wg_aload_n X 0 dX9_spreads_129 rfl rfl ?_
        refine wg_iload X 4 dX9_spreads_130 rfl ?_
        refine wg_iload_n X 1 dX9_spreads_132 rfl rfl ?_
        refine wg_iload_n X 2 dX9_spreads_133 rfl rfl ?_
        obtain ⟨r48, M49, h47, h⟩ := bd2_some h
        refine wg_callVi (As := [.int x5, .int x2, .int x3]) (rest := []) X (c_X9_goesOn l E ad S hS N C M x5 x2 x3  h47) T_yX9_goesOn k_1174 cl9 (SMi hS 55 9 rfl) dX9_spreads_134 rfl rfl (Nat.le_of_ble_eq_true rfl) ⟨Nat.le_of_ble_eq_true rfl, Nat.le_of_ble_eq_true rfl⟩ ⟨Nat.zero_le _, Nat.zero_le _⟩ ?_
        refine wg_if_eq X 143 dX9_spreads_137 (by decide) (fun c50 => ?_) (fun c50 => ?_)
        · have h := if_t c50 h
          obtain ⟨v51, e52, h⟩ := lt_some h
          refine wg_iinc (lv' := [(5, .int v51), (0, .ref (ad 55)), (2, .int x2), (3, .int x3), (4, .int x4)]) X 4 dX9_spreads_143 rfl e52 (by decide) rfl ?_
          refine wg_goto X 108 dX9_spreads_146 (by decide) ?_
          refine wg_pick [1, 2, 3, 4, 0] (lv' := [(0, .ref (ad 55)), (2, .int x2), (3, .int x3), (4, .int x4), (5, .int v51)]) rfl ?_
          exact Kc M49 x4 v51 (sm_inj h).symm
        · have h := if_f c50 h
          refine wg_iconst (v := 1) X dX9_spreads_140 (by decide) ?_
          refine wg_istore (lv' := [(4, .int (1 : Int32)), (0, .ref (ad 55)), (2, .int x2), (3, .int x3), (5, .int x5)]) X dX9_spreads_141 rfl (by decide) rfl ?_
          obtain ⟨v53, e54, h⟩ := lt_some h
          refine wg_iinc (lv' := [(5, .int v53), (4, .int (1 : Int32)), (0, .ref (ad 55)), (2, .int x2), (3, .int x3)]) X 4 dX9_spreads_143 rfl e54 (by decide) rfl ?_
          refine wg_goto X 108 dX9_spreads_146 (by decide) ?_
          refine wg_pick [2, 3, 4, 1, 0] (lv' := [(0, .ref (ad 55)), (2, .int x2), (3, .int x3), (4, .int (1 : Int32)), (5, .int v53)]) rfl ?_
          exact Kc M49 (1 : Int32) v53 (sm_inj h).symm
set_option maxHeartbeats 4000000 in
set_option maxRecDepth 100000 in
theorem L_X9_spreads_l97 {p : Program} {l : Launch} {e : Env} {s : State} {m : MethodId} {args : Array Value} {below : List Frame} {meth : Method} {c : Code} {E : wg_Ev} {ad : Nat → Nat} {S : wg_Sh} (X : wg_X p s m args meth c cX9_spreads 6 RX9 E) (hr : meth.sig.returnType = none) (hS : wg_SM S) (D0 : wg_M) (C : wg_C) (N : Nat)   (x2 : Int32) (x3 : Int32)  : ∀ (n : Nat) (M : wg_M) (x4 : Int32) (o : (wg_M × Int32)), lp (fun o => f_X9_spreads_l97 N  x2 x3 o.1 o.2) n (M, x4) = some o → (∀ (Dy : wg_M) (y4 : Int32), o = (Dy, y4) → G_X9_spreads p l e s m args below meth c E ad S C D0 152 C Dy [(0, .ref (ad 55)), (2, .int x2), (3, .int x3), (4, .int y4)] []) → G_X9_spreads p l e s m args below meth c E ad S C D0 97 C M [(0, .ref (ad 55)), (2, .int x2), (3, .int x3), (4, .int x4)] [] := by
  intro n
  induction n with
  | zero => exact fun _ _ o h => (lp_zero h).elim
  | succ n ih =>
    intro M x4 o h K
    obtain ⟨o1, hb, h2⟩ := lp_some h
    replace hb : f_X9_spreads_l97 N  x2 x3 M x4 = some o1 := hb
    clear h
    have Kc : ∀ (Dy : wg_M) (y4 : Int32), o1 = Sum.inl (Dy, y4) → G_X9_spreads p l e s m args below meth c E ad S C D0 97 C Dy [(0, .ref (ad 55)), (2, .int x2), (3, .int x3), (4, .int y4)] [] := fun Dy y4 e1 => by
      subst e1
      exact ih Dy y4 o h2 K
    have Ke : ∀ (Dy : wg_M) (y4 : Int32), o1 = Sum.inr ((Dy, y4)) → G_X9_spreads p l e s m args below meth c E ad S C D0 152 C Dy [(0, .ref (ad 55)), (2, .int x2), (3, .int x3), (4, .int y4)] [] := fun Dy y4 e1 => by
      subst e1
      exact K Dy y4 (sm_inj (α := (wg_M × Int32)) h2).symm
    clear ih K h2
    unfold f_X9_spreads_l97 at hb
    have h := hb
    clear hb
    refine wg_iload X 3 dX9_spreads_97 rfl ?_
    refine wg_if_eq X 152 dX9_spreads_99 (by decide) (fun c41 => ?_) (fun c41 => ?_)
    · have h := if_t c41 h
      exact Ke M x4 (sm_inj h).symm
    · have h := if_f c41 h
      refine wg_iconst (v := 0) X dX9_spreads_102 (by decide) ?_
      refine wg_istore (lv' := [(4, .int (0 : Int32)), (0, .ref (ad 55)), (2, .int x2), (3, .int x3)]) X dX9_spreads_103 rfl (by decide) rfl ?_
      refine wg_iconst (v := 0) X dX9_spreads_105 (by decide) ?_
      refine wg_istore (lv' := [(5, .int (0 : Int32)), (4, .int (0 : Int32)), (0, .ref (ad 55)), (2, .int x2), (3, .int x3)]) X dX9_spreads_106 rfl (by decide) rfl ?_
      obtain ⟨o58, h59, h⟩ := bd3_o h
      refine wg_pick [2, 3, 4, 1, 0] (lv' := [(0, .ref (ad 55)), (2, .int x2), (3, .int x3), (4, .int (0 : Int32)), (5, .int (0 : Int32))]) rfl ?_
      refine L_X9_spreads_l108 X hr hS D0 C N   x2 x3  N M (0 : Int32) (0 : Int32) o58 h59 (fun M55 v56 v57 e61 => ?_)
      · subst e61
        replace h := bd3_in h
        refine wg_goto X 97 dX9_spreads_149 (by decide) ?_
        refine wg_pick [0, 1, 2, 3] (lv' := [(0, .ref (ad 55)), (2, .int x2), (3, .int x3), (4, .int v56)]) rfl ?_
        exact Kc M55 v56 (sm_inj h).symm
set_option maxHeartbeats 4000000 in
set_option maxRecDepth 100000 in
theorem c_X9_spreads (l : Launch) (E : wg_Ev) (ad : Nat → Nat) (S : wg_Sh) (hS : wg_SM S) (N : Nat) (C : wg_C) (M : wg_M) (p1 : Int32) (p2 : Int32) (p3 : Int32)  {D0 : wg_M} (h : f_X9_spreads N M p1 p2 p3 = some D0) : wg_Cv l yX9_spreads cX9_spreads 6 none 76 2953 E ad S C M [.ref (ad 55), .int p1, .int p2, .int p3] C D0 := by
  refine wg_start (own := RX9) (by decide +kernel) rfl (Nat.le_of_ble_eq_true rfl) ?_
  intro p e s m below meth c X hr hnm
  refine wg_lv (lv' := [(0, .ref (ad 55)), (1, .int p1), (2, .int p2), (3, .int p3)]) rfl ?_
  unfold f_X9_spreads at h
  refine wg_iconst (v := 0) X dX9_spreads_0 (by decide) ?_
  refine wg_istore (lv' := [(4, .int (0 : Int32)), (0, .ref (ad 55)), (1, .int p1), (2, .int p2), (3, .int p3)]) X dX9_spreads_1 rfl (by decide) rfl ?_
  obtain ⟨o22, h23, h⟩ := bd2_o h
  refine wg_pick [1, 2, 3, 4, 0] (lv' := [(0, .ref (ad 55)), (1, .int p1), (2, .int p2), (3, .int p3), (4, .int (0 : Int32))]) rfl ?_
  refine L_X9_spreads_l3 X hr hS D0 C N   p1 p2 p3  N M (0 : Int32) o22 h23 (fun M20 v21 e25 => ?_)
  · subst e25
    replace h := bd2_in h
    refine wg_iconst (v := 0) X dX9_spreads_60 (by decide) ?_
    refine wg_istore (lv' := [(4, .int (0 : Int32)), (0, .ref (ad 55)), (1, .int p1), (2, .int p2), (3, .int p3)]) X dX9_spreads_61 rfl (by decide) rfl ?_
    obtain ⟨o34, h35, h⟩ := bd2_o h
    refine wg_pick [1, 2, 3, 4, 0] (lv' := [(0, .ref (ad 55)), (1, .int p1), (2, .int p2), (3, .int p3), (4, .int (0 : Int32))]) rfl ?_
    refine L_X9_spreads_l63 X hr hS D0 C N   p1 p2 p3  N M20 (0 : Int32) o34 h35 (fun M32 v33 e37 => ?_)
    · subst e37
      replace h := bd2_in h
      refine wg_aload_n X 0 dX9_spreads_87 rfl rfl ?_
      refine wg_getR (b := 65) X cl9 (SMi hS 55 9 rfl) 30 (by decide) dX9_spreads_88 k_912 rfl (SMr hS 30 65 rfl) ?_
      refine wg_iload_n X 1 dX9_spreads_91 rfl rfl ?_
      refine wg_iconst (v := 0) X dX9_spreads_92 (by decide) ?_
      obtain ⟨z38, h⟩ := ck_some h
      obtain ⟨M39, e40, h⟩ := lt_some h
      refine wg_maste X (SMi hS 65 11 rfl) (SMl hS 65 192 rfl) z38 dX9_spreads_93 e40 ?_
      refine wg_iconst (v := 1) X dX9_spreads_94 (by decide) ?_
      refine wg_istore (lv' := [(4, .int (1 : Int32)), (0, .ref (ad 55)), (1, .int p1), (2, .int p2), (3, .int p3)]) X dX9_spreads_95 rfl (by decide) rfl ?_
      obtain ⟨o64, h65, h⟩ := bd2_o h
      refine wg_pick [1, 3, 4, 0] (lv' := [(0, .ref (ad 55)), (2, .int p2), (3, .int p3), (4, .int (1 : Int32))]) rfl ?_
      refine L_X9_spreads_l97 X hr hS D0 C N   p2 p3  N M39 (1 : Int32) o64 h65 (fun M62 v63 e67 => ?_)
      · subst e67
        replace h := bd2_in h
        exact wg_vret X ⟨rfl, (sm_inj h)⟩ hr dX9_spreads_152
-- WindowsGiveModel.panes(IIII)I (('c', 55), 'i', 'i', 'i', 'i')
def f_X9_panes (N : Nat) (M : wg_M) (p1 : Int32) (p2 : Int32) (p3 : Int32) (p4 : Int32) : Option (Int32 × wg_M) :=
  bd (f_X9_isSpot p1) fun r2 =>
  if r2 = 0 then (
    some ((-2 : Int32), M))
  else (
    bd (f_X9_isSpot p2) fun r5 =>
    if r5 = 0 then (
      some ((-2 : Int32), M))
    else (
      bd (f_X9_isSort p3) fun r8 =>
      if r8 = 0 then (
        some ((-2 : Int32), M))
      else (
        bd (f_X9_in p4.toInt64 (0 : Int64) (1 : Int64)) fun r11 =>
        if r11 = 0 then (
          some ((-2 : Int32), M))
        else (
          bd (f_X9_spreads N M p1 p3 (0 : Int32)) fun M14 =>
          ck (inb p2 192) <|
          if (M14.1 65 p2.toNatClampNeg) = (99999999 : Int32) then (
            some ((-1 : Int32), M14))
          else (
            if p4 = 0 then (
              ck (inb p2 192) <|
              some (((M14.1 65 p2.toNatClampNeg) / (10000 : Int32)), M14))
            else (
              ck (inb p2 192) <|
              some (((M14.1 65 p2.toNatClampNeg) - (M14.1 65 p2.toNatClampNeg) / (10000 : Int32) * (10000 : Int32)), M14)))))))
set_option maxHeartbeats 4000000 in
set_option maxRecDepth 100000 in
theorem c_X9_panes (l : Launch) (E : wg_Ev) (ad : Nat → Nat) (S : wg_Sh) (hS : wg_SM S) (N : Nat) (C : wg_C) (M : wg_M) (p1 : Int32) (p2 : Int32) (p3 : Int32) (p4 : Int32)  {r0 : Int32} {D0 : wg_M} (h : f_X9_panes N M p1 p2 p3 p4 = some (r0, D0)) : wg_Ci l yX9_panes cX9_panes 5 (some .int) 77 2978 E ad S C M [.ref (ad 55), .int p1, .int p2, .int p3, .int p4] r0 C D0 := by
  refine wg_start (own := RX9) (by decide +kernel) rfl (Nat.le_of_ble_eq_true rfl) ?_
  intro p e s m below meth c X hr hnm
  refine wg_lv (lv' := [(0, .ref (ad 55)), (1, .int p1), (2, .int p2), (3, .int p3), (4, .int p4)]) rfl ?_
  unfold f_X9_panes at h
  refine wg_iload_n X 1 dX9_panes_0 rfl rfl ?_
  obtain ⟨r2, h1, h⟩ := bd_some h
  refine wg_callSi (As := [.int p1]) (rest := []) X (c_X9_isSpot l E ad S C M p1  h1) T_yX9_isSpot k_1158 dX9_panes_1 rfl rfl (Nat.le_of_ble_eq_true rfl) ⟨Nat.le_of_ble_eq_true rfl, Nat.le_of_ble_eq_true rfl⟩ ⟨Nat.zero_le _, Nat.zero_le _⟩ ?_
  refine wg_if_eq X 32 dX9_panes_4 (by decide) (fun c3 => ?_) (fun c3 => ?_)
  · have h := if_t c3 h
    refine wg_bipush (v := -2) X dX9_panes_32 (by decide) ?_
    exact wg_iret X ⟨(Prod.mk.inj (sm_inj h)).1, rfl, (Prod.mk.inj (sm_inj h)).2⟩ hr dX9_panes_34
  · have h := if_f c3 h
    refine wg_iload_n X 2 dX9_panes_7 rfl rfl ?_
    obtain ⟨r5, h4, h⟩ := bd_some h
    refine wg_callSi (As := [.int p2]) (rest := []) X (c_X9_isSpot l E ad S C M p2  h4) T_yX9_isSpot k_1158 dX9_panes_8 rfl rfl (Nat.le_of_ble_eq_true rfl) ⟨Nat.le_of_ble_eq_true rfl, Nat.le_of_ble_eq_true rfl⟩ ⟨Nat.zero_le _, Nat.zero_le _⟩ ?_
    refine wg_if_eq X 32 dX9_panes_11 (by decide) (fun c6 => ?_) (fun c6 => ?_)
    · have h := if_t c6 h
      refine wg_bipush (v := -2) X dX9_panes_32 (by decide) ?_
      exact wg_iret X ⟨(Prod.mk.inj (sm_inj h)).1, rfl, (Prod.mk.inj (sm_inj h)).2⟩ hr dX9_panes_34
    · have h := if_f c6 h
      refine wg_iload_n X 3 dX9_panes_14 rfl rfl ?_
      obtain ⟨r8, h7, h⟩ := bd_some h
      refine wg_callSi (As := [.int p3]) (rest := []) X (c_X9_isSort l E ad S C M p3  h7) T_yX9_isSort k_1058 dX9_panes_15 rfl rfl (Nat.le_of_ble_eq_true rfl) ⟨Nat.le_of_ble_eq_true rfl, Nat.le_of_ble_eq_true rfl⟩ ⟨Nat.zero_le _, Nat.zero_le _⟩ ?_
      refine wg_if_eq X 32 dX9_panes_18 (by decide) (fun c9 => ?_) (fun c9 => ?_)
      · have h := if_t c9 h
        refine wg_bipush (v := -2) X dX9_panes_32 (by decide) ?_
        exact wg_iret X ⟨(Prod.mk.inj (sm_inj h)).1, rfl, (Prod.mk.inj (sm_inj h)).2⟩ hr dX9_panes_34
      · have h := if_f c9 h
        refine wg_iload X 4 dX9_panes_21 rfl ?_
        refine wg_i2l X dX9_panes_23 ?_
        refine wg_lconst (v := 0) X dX9_panes_24 (by decide) ?_
        refine wg_lconst (v := 1) X dX9_panes_25 (by decide) ?_
        obtain ⟨r11, h10, h⟩ := bd_some h
        refine wg_callSi (As := [.long (p4.toInt64), .long (0 : Int64), .long (1 : Int64)]) (rest := []) X (c_X9_in l E ad S C M p4.toInt64 (0 : Int64) (1 : Int64)  h10) T_yX9_in k_1021 dX9_panes_26 rfl rfl (Nat.le_of_ble_eq_true rfl) ⟨Nat.le_of_ble_eq_true rfl, Nat.le_of_ble_eq_true rfl⟩ ⟨Nat.zero_le _, Nat.zero_le _⟩ ?_
        refine wg_if_ne X 35 dX9_panes_29 (by decide) (fun c12 => ?_) (fun c12 => ?_)
        · have h := if_f c12 h
          refine wg_aload_n X 0 dX9_panes_35 rfl rfl ?_
          refine wg_iload_n X 1 dX9_panes_36 rfl rfl ?_
          refine wg_iload_n X 3 dX9_panes_37 rfl rfl ?_
          refine wg_iconst (v := 0) X dX9_panes_38 (by decide) ?_
          obtain ⟨M14, h13, h⟩ := bd_some h
          refine wg_callVv (As := [.int p1, .int p3, .int (0 : Int32)]) (rest := []) X (c_X9_spreads l E ad S hS N C M p1 p3 (0 : Int32)  h13) T_yX9_spreads k_1162 cl9 (SMi hS 55 9 rfl) dX9_panes_39 rfl rfl (Nat.le_of_ble_eq_true rfl) ⟨Nat.le_of_ble_eq_true rfl, Nat.le_of_ble_eq_true rfl⟩ ⟨Nat.zero_le _, Nat.zero_le _⟩ ?_
          refine wg_aload_n X 0 dX9_panes_42 rfl rfl ?_
          refine wg_getR (b := 65) X cl9 (SMi hS 55 9 rfl) 30 (by decide) dX9_panes_43 k_912 rfl (SMr hS 30 65 rfl) ?_
          refine wg_iload_n X 2 dX9_panes_46 rfl rfl ?_
          obtain ⟨z15, h⟩ := ck_some h
          refine wg_mald X (SMi hS 65 11 rfl) (SMl hS 65 192 rfl) z15 dX9_panes_47 ?_
          refine wg_ldcw (v := 99999999) X dX9_panes_48 k_1173 ?_
          refine wg_icmp_ne X 58 dX9_panes_51 (by decide) (fun c16 => ?_) (fun c16 => ?_)
          · have h := if_f c16 h
            refine wg_iload X 4 dX9_panes_58 rfl ?_
            refine wg_if_ne X 76 dX9_panes_60 (by decide) (fun c17 => ?_) (fun c17 => ?_)
            · have h := if_f c17 h
              refine wg_aload_n X 0 dX9_panes_76 rfl rfl ?_
              refine wg_getR (b := 65) X cl9 (SMi hS 55 9 rfl) 30 (by decide) dX9_panes_77 k_912 rfl (SMr hS 30 65 rfl) ?_
              refine wg_iload_n X 2 dX9_panes_80 rfl rfl ?_
              obtain ⟨z18, h⟩ := ck_some h
              refine wg_mald X (SMi hS 65 11 rfl) (SMl hS 65 192 rfl) z18 dX9_panes_81 ?_
              refine wg_sipush (v := 10000) X dX9_panes_82 (by decide) ?_
              refine wg_irem X dX9_panes_85 (by decide) ?_
              exact wg_iret X ⟨(Prod.mk.inj (sm_inj h)).1, rfl, (Prod.mk.inj (sm_inj h)).2⟩ hr dX9_panes_86
            · have h := if_t c17 h
              refine wg_aload_n X 0 dX9_panes_63 rfl rfl ?_
              refine wg_getR (b := 65) X cl9 (SMi hS 55 9 rfl) 30 (by decide) dX9_panes_64 k_912 rfl (SMr hS 30 65 rfl) ?_
              refine wg_iload_n X 2 dX9_panes_67 rfl rfl ?_
              obtain ⟨z19, h⟩ := ck_some h
              refine wg_mald X (SMi hS 65 11 rfl) (SMl hS 65 192 rfl) z19 dX9_panes_68 ?_
              refine wg_sipush (v := 10000) X dX9_panes_69 (by decide) ?_
              refine wg_idiv X dX9_panes_72 (by decide) ?_
              refine wg_goto X 86 dX9_panes_73 (by decide) ?_
              exact wg_iret X ⟨(Prod.mk.inj (sm_inj h)).1, rfl, (Prod.mk.inj (sm_inj h)).2⟩ hr dX9_panes_86
          · have h := if_t c16 h
            refine wg_iconst (v := -1) X dX9_panes_54 (by decide) ?_
            refine wg_goto X 86 dX9_panes_55 (by decide) ?_
            exact wg_iret X ⟨(Prod.mk.inj (sm_inj h)).1, rfl, (Prod.mk.inj (sm_inj h)).2⟩ hr dX9_panes_86
        · have h := if_t c12 h
          refine wg_bipush (v := -2) X dX9_panes_32 (by decide) ?_
          exact wg_iret X ⟨(Prod.mk.inj (sm_inj h)).1, rfl, (Prod.mk.inj (sm_inj h)).2⟩ hr dX9_panes_34
-- WindowsGiveModel.cost(III)I (('c', 55), 'i', 'i', 'i')
def f_X9_cost (N : Nat) (M : wg_M) (p1 : Int32) (p2 : Int32) (p3 : Int32) : Option (Int32 × wg_M) :=
  bd (f_X9_isSpot p1) fun r2 =>
  if r2 = 0 then (
    some ((-2 : Int32), M))
  else (
    bd (f_X9_isSpot p2) fun r5 =>
    if r5 = 0 then (
      some ((-2 : Int32), M))
    else (
      bd (f_X9_isSort p3) fun r8 =>
      if r8 = 0 then (
        some ((-2 : Int32), M))
      else (
        bd (f_X9_spreads N M p1 p3 (1 : Int32)) fun M11 =>
        ck (inb p2 192) <|
        if (M11.1 65 p2.toNatClampNeg) = (99999999 : Int32) then (
          some ((-1 : Int32), M11))
        else (
          ck (inb p2 192) <|
          some ((M11.1 65 p2.toNatClampNeg), M11)))))
set_option maxHeartbeats 4000000 in
set_option maxRecDepth 100000 in
theorem c_X9_cost (l : Launch) (E : wg_Ev) (ad : Nat → Nat) (S : wg_Sh) (hS : wg_SM S) (N : Nat) (C : wg_C) (M : wg_M) (p1 : Int32) (p2 : Int32) (p3 : Int32)  {r0 : Int32} {D0 : wg_M} (h : f_X9_cost N M p1 p2 p3 = some (r0, D0)) : wg_Ci l yX9_cost cX9_cost 4 (some .int) 77 2978 E ad S C M [.ref (ad 55), .int p1, .int p2, .int p3] r0 C D0 := by
  refine wg_start (own := RX9) (by decide +kernel) rfl (Nat.le_of_ble_eq_true rfl) ?_
  intro p e s m below meth c X hr hnm
  refine wg_lv (lv' := [(0, .ref (ad 55)), (1, .int p1), (2, .int p2), (3, .int p3)]) rfl ?_
  unfold f_X9_cost at h
  refine wg_iload_n X 1 dX9_cost_0 rfl rfl ?_
  obtain ⟨r2, h1, h⟩ := bd_some h
  refine wg_callSi (As := [.int p1]) (rest := []) X (c_X9_isSpot l E ad S C M p1  h1) T_yX9_isSpot k_1158 dX9_cost_1 rfl rfl (Nat.le_of_ble_eq_true rfl) ⟨Nat.le_of_ble_eq_true rfl, Nat.le_of_ble_eq_true rfl⟩ ⟨Nat.zero_le _, Nat.zero_le _⟩ ?_
  refine wg_if_eq X 21 dX9_cost_4 (by decide) (fun c3 => ?_) (fun c3 => ?_)
  · have h := if_t c3 h
    refine wg_bipush (v := -2) X dX9_cost_21 (by decide) ?_
    exact wg_iret X ⟨(Prod.mk.inj (sm_inj h)).1, rfl, (Prod.mk.inj (sm_inj h)).2⟩ hr dX9_cost_23
  · have h := if_f c3 h
    refine wg_iload_n X 2 dX9_cost_7 rfl rfl ?_
    obtain ⟨r5, h4, h⟩ := bd_some h
    refine wg_callSi (As := [.int p2]) (rest := []) X (c_X9_isSpot l E ad S C M p2  h4) T_yX9_isSpot k_1158 dX9_cost_8 rfl rfl (Nat.le_of_ble_eq_true rfl) ⟨Nat.le_of_ble_eq_true rfl, Nat.le_of_ble_eq_true rfl⟩ ⟨Nat.zero_le _, Nat.zero_le _⟩ ?_
    refine wg_if_eq X 21 dX9_cost_11 (by decide) (fun c6 => ?_) (fun c6 => ?_)
    · have h := if_t c6 h
      refine wg_bipush (v := -2) X dX9_cost_21 (by decide) ?_
      exact wg_iret X ⟨(Prod.mk.inj (sm_inj h)).1, rfl, (Prod.mk.inj (sm_inj h)).2⟩ hr dX9_cost_23
    · have h := if_f c6 h
      refine wg_iload_n X 3 dX9_cost_14 rfl rfl ?_
      obtain ⟨r8, h7, h⟩ := bd_some h
      refine wg_callSi (As := [.int p3]) (rest := []) X (c_X9_isSort l E ad S C M p3  h7) T_yX9_isSort k_1058 dX9_cost_15 rfl rfl (Nat.le_of_ble_eq_true rfl) ⟨Nat.le_of_ble_eq_true rfl, Nat.le_of_ble_eq_true rfl⟩ ⟨Nat.zero_le _, Nat.zero_le _⟩ ?_
      refine wg_if_ne X 24 dX9_cost_18 (by decide) (fun c9 => ?_) (fun c9 => ?_)
      · have h := if_f c9 h
        refine wg_aload_n X 0 dX9_cost_24 rfl rfl ?_
        refine wg_iload_n X 1 dX9_cost_25 rfl rfl ?_
        refine wg_iload_n X 3 dX9_cost_26 rfl rfl ?_
        refine wg_iconst (v := 1) X dX9_cost_27 (by decide) ?_
        obtain ⟨M11, h10, h⟩ := bd_some h
        refine wg_callVv (As := [.int p1, .int p3, .int (1 : Int32)]) (rest := []) X (c_X9_spreads l E ad S hS N C M p1 p3 (1 : Int32)  h10) T_yX9_spreads k_1162 cl9 (SMi hS 55 9 rfl) dX9_cost_28 rfl rfl (Nat.le_of_ble_eq_true rfl) ⟨Nat.le_of_ble_eq_true rfl, Nat.le_of_ble_eq_true rfl⟩ ⟨Nat.zero_le _, Nat.zero_le _⟩ ?_
        refine wg_aload_n X 0 dX9_cost_31 rfl rfl ?_
        refine wg_getR (b := 65) X cl9 (SMi hS 55 9 rfl) 30 (by decide) dX9_cost_32 k_912 rfl (SMr hS 30 65 rfl) ?_
        refine wg_iload_n X 2 dX9_cost_35 rfl rfl ?_
        obtain ⟨z12, h⟩ := ck_some h
        refine wg_mald X (SMi hS 65 11 rfl) (SMl hS 65 192 rfl) z12 dX9_cost_36 ?_
        refine wg_ldcw (v := 99999999) X dX9_cost_37 k_1173 ?_
        refine wg_icmp_ne X 47 dX9_cost_40 (by decide) (fun c13 => ?_) (fun c13 => ?_)
        · have h := if_f c13 h
          refine wg_aload_n X 0 dX9_cost_47 rfl rfl ?_
          refine wg_getR (b := 65) X cl9 (SMi hS 55 9 rfl) 30 (by decide) dX9_cost_48 k_912 rfl (SMr hS 30 65 rfl) ?_
          refine wg_iload_n X 2 dX9_cost_51 rfl rfl ?_
          obtain ⟨z14, h⟩ := ck_some h
          refine wg_mald X (SMi hS 65 11 rfl) (SMl hS 65 192 rfl) z14 dX9_cost_52 ?_
          exact wg_iret X ⟨(Prod.mk.inj (sm_inj h)).1, rfl, (Prod.mk.inj (sm_inj h)).2⟩ hr dX9_cost_53
        · have h := if_t c13 h
          refine wg_iconst (v := -1) X dX9_cost_43 (by decide) ?_
          refine wg_goto X 53 dX9_cost_44 (by decide) ?_
          exact wg_iret X ⟨(Prod.mk.inj (sm_inj h)).1, rfl, (Prod.mk.inj (sm_inj h)).2⟩ hr dX9_cost_53
      · have h := if_t c9 h
        refine wg_bipush (v := -2) X dX9_cost_21 (by decide) ?_
        exact wg_iret X ⟨(Prod.mk.inj (sm_inj h)).1, rfl, (Prod.mk.inj (sm_inj h)).2⟩ hr dX9_cost_23
-- WindowsGiveModel.earliest(III)I (('c', 55), 'i', 'i', 'i')
def f_X9_earliest_l34 (N : Nat) (M : wg_M)  (x2 : Int32) (x4 : Int32) : Option ((Int32) ⊕ ((Int32) ⊕ (Int32 × wg_M))) :=
  if (32 : Int32) ≤ x4 then (
    some (.inr (.inl x4)))
  else (
    ck (inb (((32 : Int32) * x2) + x4) 192) <|
    if (99999999 : Int32) ≤ (M.1 65 (((32 : Int32) * x2) + x4).toNatClampNeg) then (
      lt_ (x4 + (1 : Int32)) fun v15 =>
      some (.inl v15))
    else (
      some (.inr (.inr (x4, M)))))
def f_X9_earliest (N : Nat) (M : wg_M) (p1 : Int32) (p2 : Int32) (p3 : Int32) : Option (Int32 × wg_M) :=
  bd (f_X9_isSpot p1) fun r2 =>
  if r2 = 0 then (
    some ((-2 : Int32), M))
  else (
    bd (f_X9_isRoom p2) fun r5 =>
    if r5 = 0 then (
      some ((-2 : Int32), M))
    else (
      bd (f_X9_isSort p3) fun r8 =>
      if r8 = 0 then (
        some ((-2 : Int32), M))
      else (
        bd (f_X9_spreads N M p1 p3 (0 : Int32)) fun M11 =>
        bs1 (lp (fun o => f_X9_earliest_l34 N M11  p2 o) N (0 : Int32)) (fun v17 =>
          some ((-1 : Int32), M11))
          (fun q20 => some q20))))
abbrev G_X9_earliest (p : Program) (l : Launch) (e : Env) (s : State) (m : MethodId) (args : Array Value) (below : List Frame) (meth : Method) (c : Code) (E : wg_Ev) (ad : Nat → Nat) (S : wg_Sh) (r0 : Int32) (C0 : wg_C) (M0 : wg_M) (pc : Nat) (C : wg_C) (M : wg_M) (lv : List (Nat × Value)) (st : List Value) : Prop := wg_G p l e (wg_Rm 77 2978) s m args below meth c (MQ below (wg_Qi E ad S r0 C0 M0) args s 0 0 (wg_A E)) 5 E ad S 0 0 pc C M lv st
set_option maxHeartbeats 4000000 in
set_option maxRecDepth 100000 in
theorem L_X9_earliest_l34 {p : Program} {l : Launch} {e : Env} {s : State} {m : MethodId} {args : Array Value} {below : List Frame} {meth : Method} {c : Code} {E : wg_Ev} {ad : Nat → Nat} {S : wg_Sh} (X : wg_X p s m args meth c cX9_earliest 5 RX9 E) (hr : meth.sig.returnType = (some .int)) (hS : wg_SM S) (r0 : Int32) (D0 : wg_M) (C : wg_C) (N : Nat)  (M : wg_M)  (x2 : Int32)  : ∀ (n : Nat) (x4 : Int32) (o : ((Int32) ⊕ (Int32 × wg_M))), lp (fun o => f_X9_earliest_l34 N M  x2 o) n x4 = some o → (∀ (y4 : Int32), o = Sum.inl y4 → G_X9_earliest p l e s m args below meth c E ad S r0 C D0 68 C M [(0, .ref (ad 55)), (2, .int x2), (4, .int y4)] []) → (∀ q : (Int32 × wg_M), o = Sum.inr q → q = (r0, D0)) → G_X9_earliest p l e s m args below meth c E ad S r0 C D0 34 C M [(0, .ref (ad 55)), (2, .int x2), (4, .int x4)] [] := by
  intro n
  induction n with
  | zero => exact fun _ o h => (lp_zero h).elim
  | succ n ih =>
    intro x4 o h K KR
    obtain ⟨o1, hb, h2⟩ := lp_some h
    replace hb : f_X9_earliest_l34 N M  x2 x4 = some o1 := hb
    clear h
    have Kc : ∀ (y4 : Int32), o1 = Sum.inl y4 → G_X9_earliest p l e s m args below meth c E ad S r0 C D0 34 C M [(0, .ref (ad 55)), (2, .int x2), (4, .int y4)] [] := fun y4 e1 => by
      subst e1
      exact ih y4 o h2 K KR
    have Ke : ∀ (y4 : Int32), o1 = Sum.inr (Sum.inl y4) → G_X9_earliest p l e s m args below meth c E ad S r0 C D0 68 C M [(0, .ref (ad 55)), (2, .int x2), (4, .int y4)] [] := fun y4 e1 => by
      subst e1
      exact K y4 (sm_inj (α := ((Int32) ⊕ (Int32 × wg_M))) h2).symm
    have Kr : ∀ q : (Int32 × wg_M), o1 = Sum.inr (Sum.inr q) → q = (r0, D0) := fun q e1 => by
      subst e1
      exact KR q (sm_inj (α := ((Int32) ⊕ (Int32 × wg_M))) h2).symm
    clear ih K h2 KR
    unfold f_X9_earliest_l34 at hb
    have h := hb
    clear hb
    refine wg_iload X 2 dX9_earliest_34 rfl ?_
    refine wg_bipush (v := 32) X dX9_earliest_36 (by decide) ?_
    refine wg_icmp_ge X 68 dX9_earliest_38 (by decide) (fun c12 => ?_) (fun c12 => ?_)
    · have h := if_t c12 h
      exact Ke x4 (sm_inj h).symm
    · have h := if_f c12 h
      refine wg_aload_n X 0 dX9_earliest_41 rfl rfl ?_
      refine wg_getR (b := 65) X cl9 (SMi hS 55 9 rfl) 30 (by decide) dX9_earliest_42 k_912 rfl (SMr hS 30 65 rfl) ?_
      refine wg_bipush (v := 32) X dX9_earliest_45 (by decide) ?_
      refine wg_iload_n X 1 dX9_earliest_47 rfl rfl ?_
      refine wg_imul X dX9_earliest_48 ?_
      refine wg_iload X 2 dX9_earliest_49 rfl ?_
      refine wg_iadd X dX9_earliest_51 ?_
      obtain ⟨z13, h⟩ := ck_some h
      refine wg_mald X (SMi hS 65 11 rfl) (SMl hS 65 192 rfl) z13 dX9_earliest_52 ?_
      refine wg_ldcw (v := 99999999) X dX9_earliest_53 k_1173 ?_
      refine wg_icmp_ge X 62 dX9_earliest_56 (by decide) (fun c14 => ?_) (fun c14 => ?_)
      · have h := if_t c14 h
        obtain ⟨v15, e16, h⟩ := lt_some h
        refine wg_iinc (lv' := [(4, .int v15), (0, .ref (ad 55)), (2, .int x2)]) X 2 dX9_earliest_62 rfl e16 (by decide) rfl ?_
        refine wg_goto X 34 dX9_earliest_65 (by decide) ?_
        refine wg_pick [1, 2, 0] (lv' := [(0, .ref (ad 55)), (2, .int x2), (4, .int v15)]) rfl ?_
        exact Kc v15 (sm_inj h).symm
      · have h := if_f c14 h
        refine wg_iload X 2 dX9_earliest_59 rfl ?_
        have hq := Kr _ (sm_inj h).symm
        exact wg_iret X ⟨(Prod.mk.inj hq).1, rfl, (Prod.mk.inj hq).2⟩ hr dX9_earliest_61
set_option maxHeartbeats 4000000 in
set_option maxRecDepth 100000 in
theorem c_X9_earliest (l : Launch) (E : wg_Ev) (ad : Nat → Nat) (S : wg_Sh) (hS : wg_SM S) (N : Nat) (C : wg_C) (M : wg_M) (p1 : Int32) (p2 : Int32) (p3 : Int32)  {r0 : Int32} {D0 : wg_M} (h : f_X9_earliest N M p1 p2 p3 = some (r0, D0)) : wg_Ci l yX9_earliest cX9_earliest 5 (some .int) 77 2978 E ad S C M [.ref (ad 55), .int p1, .int p2, .int p3] r0 C D0 := by
  refine wg_start (own := RX9) (by decide +kernel) rfl (Nat.le_of_ble_eq_true rfl) ?_
  intro p e s m below meth c X hr hnm
  refine wg_lv (lv' := [(0, .ref (ad 55)), (1, .int p1), (2, .int p2), (3, .int p3)]) rfl ?_
  unfold f_X9_earliest at h
  refine wg_iload_n X 1 dX9_earliest_0 rfl rfl ?_
  obtain ⟨r2, h1, h⟩ := bd_some h
  refine wg_callSi (As := [.int p1]) (rest := []) X (c_X9_isSpot l E ad S C M p1  h1) T_yX9_isSpot k_1158 dX9_earliest_1 rfl rfl (Nat.le_of_ble_eq_true rfl) ⟨Nat.le_of_ble_eq_true rfl, Nat.le_of_ble_eq_true rfl⟩ ⟨Nat.zero_le _, Nat.zero_le _⟩ ?_
  refine wg_if_eq X 21 dX9_earliest_4 (by decide) (fun c3 => ?_) (fun c3 => ?_)
  · have h := if_t c3 h
    refine wg_bipush (v := -2) X dX9_earliest_21 (by decide) ?_
    exact wg_iret X ⟨(Prod.mk.inj (sm_inj h)).1, rfl, (Prod.mk.inj (sm_inj h)).2⟩ hr dX9_earliest_23
  · have h := if_f c3 h
    refine wg_iload_n X 2 dX9_earliest_7 rfl rfl ?_
    obtain ⟨r5, h4, h⟩ := bd_some h
    refine wg_callSi (As := [.int p2]) (rest := []) X (c_X9_isRoom l E ad S C M p2  h4) T_yX9_isRoom k_1050 dX9_earliest_8 rfl rfl (Nat.le_of_ble_eq_true rfl) ⟨Nat.le_of_ble_eq_true rfl, Nat.le_of_ble_eq_true rfl⟩ ⟨Nat.zero_le _, Nat.zero_le _⟩ ?_
    refine wg_if_eq X 21 dX9_earliest_11 (by decide) (fun c6 => ?_) (fun c6 => ?_)
    · have h := if_t c6 h
      refine wg_bipush (v := -2) X dX9_earliest_21 (by decide) ?_
      exact wg_iret X ⟨(Prod.mk.inj (sm_inj h)).1, rfl, (Prod.mk.inj (sm_inj h)).2⟩ hr dX9_earliest_23
    · have h := if_f c6 h
      refine wg_iload_n X 3 dX9_earliest_14 rfl rfl ?_
      obtain ⟨r8, h7, h⟩ := bd_some h
      refine wg_callSi (As := [.int p3]) (rest := []) X (c_X9_isSort l E ad S C M p3  h7) T_yX9_isSort k_1058 dX9_earliest_15 rfl rfl (Nat.le_of_ble_eq_true rfl) ⟨Nat.le_of_ble_eq_true rfl, Nat.le_of_ble_eq_true rfl⟩ ⟨Nat.zero_le _, Nat.zero_le _⟩ ?_
      refine wg_if_ne X 24 dX9_earliest_18 (by decide) (fun c9 => ?_) (fun c9 => ?_)
      · have h := if_f c9 h
        refine wg_aload_n X 0 dX9_earliest_24 rfl rfl ?_
        refine wg_iload_n X 1 dX9_earliest_25 rfl rfl ?_
        refine wg_iload_n X 3 dX9_earliest_26 rfl rfl ?_
        refine wg_iconst (v := 0) X dX9_earliest_27 (by decide) ?_
        obtain ⟨M11, h10, h⟩ := bd_some h
        refine wg_callVv (As := [.int p1, .int p3, .int (0 : Int32)]) (rest := []) X (c_X9_spreads l E ad S hS N C M p1 p3 (0 : Int32)  h10) T_yX9_spreads k_1162 cl9 (SMi hS 55 9 rfl) dX9_earliest_28 rfl rfl (Nat.le_of_ble_eq_true rfl) ⟨Nat.le_of_ble_eq_true rfl, Nat.le_of_ble_eq_true rfl⟩ ⟨Nat.zero_le _, Nat.zero_le _⟩ ?_
        refine wg_iconst (v := 0) X dX9_earliest_31 (by decide) ?_
        refine wg_istore (lv' := [(4, .int (0 : Int32)), (0, .ref (ad 55)), (1, .int p1), (2, .int p2), (3, .int p3)]) X dX9_earliest_32 rfl (by decide) rfl ?_
        obtain ⟨o18, h19, h⟩ := bs1_o h
        refine wg_pick [1, 3, 0] (lv' := [(0, .ref (ad 55)), (2, .int p2), (4, .int (0 : Int32))]) rfl ?_
        refine L_X9_earliest_l34 X hr hS r0 D0 C N  M11  p2  N (0 : Int32) o18 h19 (fun v17 e21 => ?_) (fun q20 e21 => ?_)
        · subst e21
          replace h := bs1_in h
          refine wg_iconst (v := -1) X dX9_earliest_68 (by decide) ?_
          exact wg_iret X ⟨(Prod.mk.inj (sm_inj h)).1, rfl, (Prod.mk.inj (sm_inj h)).2⟩ hr dX9_earliest_69
        · subst e21
          replace h := bs1_r h
          exact sm_inj h
      · have h := if_t c9 h
        refine wg_bipush (v := -2) X dX9_earliest_21 (by decide) ?_
        exact wg_iret X ⟨(Prod.mk.inj (sm_inj h)).1, rfl, (Prod.mk.inj (sm_inj h)).2⟩ hr dX9_earliest_23
-- WindowsGiveModel.loop(II)I (('c', 55), 'i', 'i')
def f_X9_loop_l96 (N : Nat) (M : wg_M)  (x1 : Int32) (x2 : Int32) (x4 : Int32) (x5 : Int32) (x3 : Int32) (x6 : Int32) : Option ((Int32 × Int32) ⊕ (Int32 × Int32)) :=
  if (M.1 55 13) ≤ x6 then (
    some (.inr (x3, x6)))
  else (
    ck (inb x6 8) <|
    if (M.1 63 x6.toNatClampNeg) = (x4 / (32 : Int32)) then (
      bd (f_X9_passes M x6 x5 x2) fun r23 =>
      if r23 = 0 then (
        lt_ (x6 + (1 : Int32)) fun v25 =>
        some (.inl (x3, v25)))
      else (
        bd (f_X9_leads M x6) fun r28 =>
        bd (f_X9_on M x6 x5) fun r30 =>
        if (((32 : Int32) * r28) + r30) = x1 then (
          ck (inb x4 192) <|
          if x3 ≤ ((M.1 65 x4.toNatClampNeg) + (10000 : Int32)) then (
            lt_ (x6 + (1 : Int32)) fun v36 =>
            some (.inl (x3, v36)))
          else (
            ck (inb x4 192) <|
            lt_ ((M.1 65 x4.toNatClampNeg) + (10000 : Int32)) fun v39 =>
            lt_ (x6 + (1 : Int32)) fun v41 =>
            some (.inl (v39, v41))))
        else (
          lt_ (x6 + (1 : Int32)) fun v32 =>
          some (.inl (x3, v32)))))
    else (
      lt_ (x6 + (1 : Int32)) fun v20 =>
      some (.inl (x3, v20))))
def f_X9_loop_j93l31 (N : Nat) (M : wg_M)  (x1 : Int32) (x2 : Int32) (x3 : Int32) (x4 : Int32) (x5 : Int32) : Option ((Int32 × Int32) ⊕ (Int32 × Int32)) :=
  bd2 (lp (fun o => f_X9_loop_l96 N M  x1 x2 x4 x5 o.1 o.2) N (x3, (0 : Int32))) fun v43 v44 =>
  lt_ (x4 + (1 : Int32)) fun v49 =>
  some (.inl (v43, v49))
def f_X9_loop_l31 (N : Nat) (M : wg_M)  (x1 : Int32) (x2 : Int32) (x3 : Int32) (x4 : Int32) : Option ((Int32 × Int32) ⊕ (Int32 × Int32)) :=
  if (192 : Int32) ≤ x4 then (
    some (.inr (x3, x4)))
  else (
    ck (inb x4 192) <|
    if (99999999 : Int32) ≤ (M.1 65 x4.toNatClampNeg) then (
      lt_ (x4 + (1 : Int32)) fun v12 =>
      some (.inl (x3, v12)))
    else (
      lt_ (x4 - x4 / (32 : Int32) * (32 : Int32)) fun v14 =>
      if (31 : Int32) ≤ v14 then (
        f_X9_loop_j93l31 N M  x1 x2 x3 x4 v14)
      else (
        if (x4 + (1 : Int32)) = x1 then (
          ck (inb x4 192) <|
          if x3 ≤ (M.1 65 x4.toNatClampNeg) then (
            f_X9_loop_j93l31 N M  x1 x2 x3 x4 v14)
          else (
            ck (inb x4 192) <|
            lt_ (M.1 65 x4.toNatClampNeg) fun v55 =>
            f_X9_loop_j93l31 N M  x1 x2 v55 x4 v14))
        else (
          f_X9_loop_j93l31 N M  x1 x2 x3 x4 v14))))
def f_X9_loop (N : Nat) (M : wg_M) (p1 : Int32) (p2 : Int32) : Option (Int32 × wg_M) :=
  bd (f_X9_isSpot p1) fun r2 =>
  if r2 = 0 then (
    some ((-2 : Int32), M))
  else (
    bd (f_X9_isSort p2) fun r5 =>
    if r5 = 0 then (
      some ((-2 : Int32), M))
    else (
      bd (f_X9_spreads N M p1 p2 (0 : Int32)) fun M8 =>
      bd2 (lp (fun o => f_X9_loop_l31 N M8  p1 p2 o.1 o.2) N ((99999999 : Int32), (0 : Int32))) fun v57 v58 =>
      if v57 = (99999999 : Int32) then (
        some ((-1 : Int32), M8))
      else (
        some ((v57 / (10000 : Int32)), M8))))
abbrev G_X9_loop (p : Program) (l : Launch) (e : Env) (s : State) (m : MethodId) (args : Array Value) (below : List Frame) (meth : Method) (c : Code) (E : wg_Ev) (ad : Nat → Nat) (S : wg_Sh) (r0 : Int32) (C0 : wg_C) (M0 : wg_M) (pc : Nat) (C : wg_C) (M : wg_M) (lv : List (Nat × Value)) (st : List Value) : Prop := wg_G p l e (wg_Rm 77 2978) s m args below meth c (MQ below (wg_Qi E ad S r0 C0 M0) args s 0 0 (wg_A E)) 7 E ad S 0 0 pc C M lv st
set_option maxHeartbeats 4000000 in
set_option maxRecDepth 100000 in
theorem L_X9_loop_l96 {p : Program} {l : Launch} {e : Env} {s : State} {m : MethodId} {args : Array Value} {below : List Frame} {meth : Method} {c : Code} {E : wg_Ev} {ad : Nat → Nat} {S : wg_Sh} (X : wg_X p s m args meth c cX9_loop 7 RX9 E) (hr : meth.sig.returnType = (some .int)) (hS : wg_SM S) (r0 : Int32) (D0 : wg_M) (C : wg_C) (N : Nat)  (M : wg_M)  (x1 : Int32) (x2 : Int32) (x4 : Int32) (x5 : Int32)  : ∀ (n : Nat) (x3 : Int32) (x6 : Int32) (o : (Int32 × Int32)), lp (fun o => f_X9_loop_l96 N M  x1 x2 x4 x5 o.1 o.2) n (x3, x6) = some o → (∀ (y3 : Int32) (y6 : Int32), o = (y3, y6) → G_X9_loop p l e s m args below meth c E ad S r0 C D0 187 C M [(0, .ref (ad 55)), (1, .int x1), (2, .int x2), (3, .int y3), (4, .int x4), (5, .int x5), (6, .int y6)] []) → G_X9_loop p l e s m args below meth c E ad S r0 C D0 96 C M [(0, .ref (ad 55)), (1, .int x1), (2, .int x2), (3, .int x3), (4, .int x4), (5, .int x5), (6, .int x6)] [] := by
  intro n
  induction n with
  | zero => exact fun _ _ o h => (lp_zero h).elim
  | succ n ih =>
    intro x3 x6 o h K
    obtain ⟨o1, hb, h2⟩ := lp_some h
    replace hb : f_X9_loop_l96 N M  x1 x2 x4 x5 x3 x6 = some o1 := hb
    clear h
    have Kc : ∀ (y3 : Int32) (y6 : Int32), o1 = Sum.inl (y3, y6) → G_X9_loop p l e s m args below meth c E ad S r0 C D0 96 C M [(0, .ref (ad 55)), (1, .int x1), (2, .int x2), (3, .int y3), (4, .int x4), (5, .int x5), (6, .int y6)] [] := fun y3 y6 e1 => by
      subst e1
      exact ih y3 y6 o h2 K
    have Ke : ∀ (y3 : Int32) (y6 : Int32), o1 = Sum.inr ((y3, y6)) → G_X9_loop p l e s m args below meth c E ad S r0 C D0 187 C M [(0, .ref (ad 55)), (1, .int x1), (2, .int x2), (3, .int y3), (4, .int x4), (5, .int x5), (6, .int y6)] [] := fun y3 y6 e1 => by
      subst e1
      exact K y3 y6 (sm_inj (α := (Int32 × Int32)) h2).symm
    clear ih K h2
    unfold f_X9_loop_l96 at hb
    have h := hb
    clear hb
    refine wg_iload X 6 dX9_loop_96 rfl ?_
    refine wg_aload_n X 0 dX9_loop_98 rfl rfl ?_
    refine wg_getM X cl9 (SMi hS 55 9 rfl) 13 (by decide) dX9_loop_99 k_895 rfl ?_
    refine wg_icmp_ge X 187 dX9_loop_102 (by decide) (fun c17 => ?_) (fun c17 => ?_)
    · have h := if_t c17 h
      exact Ke x3 x6 (sm_inj h).symm
    · have h := if_f c17 h
      refine wg_aload_n X 0 dX9_loop_105 rfl rfl ?_
      refine wg_getR (b := 63) X cl9 (SMi hS 55 9 rfl) 11 (by decide) dX9_loop_106 k_893 rfl (SMr hS 11 63 rfl) ?_
      refine wg_iload X 6 dX9_loop_109 rfl ?_
      obtain ⟨z18, h⟩ := ck_some h
      refine wg_mald X (SMi hS 63 11 rfl) (SMl hS 63 8 rfl) z18 dX9_loop_111 ?_
      refine wg_iload X 4 dX9_loop_112 rfl ?_
      refine wg_bipush (v := 32) X dX9_loop_114 (by decide) ?_
      refine wg_idiv X dX9_loop_116 (by decide) ?_
      refine wg_icmp_ne X 181 dX9_loop_117 (by decide) (fun c19 => ?_) (fun c19 => ?_)
      · have h := if_f c19 h
        obtain ⟨v20, e21, h⟩ := lt_some h
        refine wg_iinc (lv' := [(6, .int v20), (0, .ref (ad 55)), (1, .int x1), (2, .int x2), (3, .int x3), (4, .int x4), (5, .int x5)]) X 6 dX9_loop_181 rfl e21 (by decide) rfl ?_
        refine wg_goto X 96 dX9_loop_184 (by decide) ?_
        refine wg_pick [1, 2, 3, 4, 5, 6, 0] (lv' := [(0, .ref (ad 55)), (1, .int x1), (2, .int x2), (3, .int x3), (4, .int x4), (5, .int x5), (6, .int v20)]) rfl ?_
        exact Kc x3 v20 (sm_inj h).symm
      · have h := if_t c19 h
        refine wg_aload_n X 0 dX9_loop_120 rfl rfl ?_
        refine wg_iload X 6 dX9_loop_121 rfl ?_
        refine wg_iload X 5 dX9_loop_123 rfl ?_
        refine wg_iload_n X 2 dX9_loop_125 rfl rfl ?_
        obtain ⟨r23, h22, h⟩ := bd_some h
        refine wg_callVi (As := [.int x6, .int x5, .int x2]) (rest := []) X (c_X9_passes l E ad S hS C M x6 x5 x2  h22) T_yX9_passes k_1066 cl9 (SMi hS 55 9 rfl) dX9_loop_126 rfl rfl (Nat.le_of_ble_eq_true rfl) ⟨Nat.le_of_ble_eq_true rfl, Nat.le_of_ble_eq_true rfl⟩ ⟨Nat.zero_le _, Nat.zero_le _⟩ ?_
        refine wg_if_eq X 181 dX9_loop_129 (by decide) (fun c24 => ?_) (fun c24 => ?_)
        · have h := if_t c24 h
          obtain ⟨v25, e26, h⟩ := lt_some h
          refine wg_iinc (lv' := [(6, .int v25), (0, .ref (ad 55)), (1, .int x1), (2, .int x2), (3, .int x3), (4, .int x4), (5, .int x5)]) X 6 dX9_loop_181 rfl e26 (by decide) rfl ?_
          refine wg_goto X 96 dX9_loop_184 (by decide) ?_
          refine wg_pick [1, 2, 3, 4, 5, 6, 0] (lv' := [(0, .ref (ad 55)), (1, .int x1), (2, .int x2), (3, .int x3), (4, .int x4), (5, .int x5), (6, .int v25)]) rfl ?_
          exact Kc x3 v25 (sm_inj h).symm
        · have h := if_f c24 h
          refine wg_bipush (v := 32) X dX9_loop_132 (by decide) ?_
          refine wg_aload_n X 0 dX9_loop_134 rfl rfl ?_
          refine wg_iload X 6 dX9_loop_135 rfl ?_
          obtain ⟨r28, h27, h⟩ := bd_some h
          refine wg_callVi (As := [.int x6]) (rest := [.int (32 : Int32)]) X (c_X9_leads l E ad S hS C M x6  h27) T_yX9_leads k_1040 cl9 (SMi hS 55 9 rfl) dX9_loop_137 rfl rfl (Nat.le_of_ble_eq_true rfl) ⟨Nat.le_of_ble_eq_true rfl, Nat.le_of_ble_eq_true rfl⟩ ⟨Nat.zero_le _, Nat.zero_le _⟩ ?_
          refine wg_imul X dX9_loop_140 ?_
          refine wg_aload_n X 0 dX9_loop_141 rfl rfl ?_
          refine wg_iload X 6 dX9_loop_142 rfl ?_
          refine wg_iload X 5 dX9_loop_144 rfl ?_
          obtain ⟨r30, h29, h⟩ := bd_some h
          refine wg_callVi (As := [.int x6, .int x5]) (rest := [.int ((32 : Int32) * r28)]) X (c_X9_on l E ad S hS C M x6 x5  h29) T_yX9_on k_1062 cl9 (SMi hS 55 9 rfl) dX9_loop_146 rfl rfl (Nat.le_of_ble_eq_true rfl) ⟨Nat.le_of_ble_eq_true rfl, Nat.le_of_ble_eq_true rfl⟩ ⟨Nat.zero_le _, Nat.zero_le _⟩ ?_
          refine wg_iadd X dX9_loop_149 ?_
          refine wg_iload_n X 1 dX9_loop_150 rfl rfl ?_
          refine wg_icmp_ne X 181 dX9_loop_151 (by decide) (fun c31 => ?_) (fun c31 => ?_)
          · have h := if_f c31 h
            obtain ⟨v32, e33, h⟩ := lt_some h
            refine wg_iinc (lv' := [(6, .int v32), (0, .ref (ad 55)), (1, .int x1), (2, .int x2), (3, .int x3), (4, .int x4), (5, .int x5)]) X 6 dX9_loop_181 rfl e33 (by decide) rfl ?_
            refine wg_goto X 96 dX9_loop_184 (by decide) ?_
            refine wg_pick [1, 2, 3, 4, 5, 6, 0] (lv' := [(0, .ref (ad 55)), (1, .int x1), (2, .int x2), (3, .int x3), (4, .int x4), (5, .int x5), (6, .int v32)]) rfl ?_
            exact Kc x3 v32 (sm_inj h).symm
          · have h := if_t c31 h
            refine wg_aload_n X 0 dX9_loop_154 rfl rfl ?_
            refine wg_getR (b := 65) X cl9 (SMi hS 55 9 rfl) 30 (by decide) dX9_loop_155 k_912 rfl (SMr hS 30 65 rfl) ?_
            refine wg_iload X 4 dX9_loop_158 rfl ?_
            obtain ⟨z34, h⟩ := ck_some h
            refine wg_mald X (SMi hS 65 11 rfl) (SMl hS 65 192 rfl) z34 dX9_loop_160 ?_
            refine wg_sipush (v := 10000) X dX9_loop_161 (by decide) ?_
            refine wg_iadd X dX9_loop_164 ?_
            refine wg_iload_n X 3 dX9_loop_165 rfl rfl ?_
            refine wg_icmp_ge X 181 dX9_loop_166 (by decide) (fun c35 => ?_) (fun c35 => ?_)
            · have h := if_t c35 h
              obtain ⟨v36, e37, h⟩ := lt_some h
              refine wg_iinc (lv' := [(6, .int v36), (0, .ref (ad 55)), (1, .int x1), (2, .int x2), (3, .int x3), (4, .int x4), (5, .int x5)]) X 6 dX9_loop_181 rfl e37 (by decide) rfl ?_
              refine wg_goto X 96 dX9_loop_184 (by decide) ?_
              refine wg_pick [1, 2, 3, 4, 5, 6, 0] (lv' := [(0, .ref (ad 55)), (1, .int x1), (2, .int x2), (3, .int x3), (4, .int x4), (5, .int x5), (6, .int v36)]) rfl ?_
              exact Kc x3 v36 (sm_inj h).symm
            · have h := if_f c35 h
              refine wg_aload_n X 0 dX9_loop_169 rfl rfl ?_
              refine wg_getR (b := 65) X cl9 (SMi hS 55 9 rfl) 30 (by decide) dX9_loop_170 k_912 rfl (SMr hS 30 65 rfl) ?_
              refine wg_iload X 4 dX9_loop_173 rfl ?_
              obtain ⟨z38, h⟩ := ck_some h
              refine wg_mald X (SMi hS 65 11 rfl) (SMl hS 65 192 rfl) z38 dX9_loop_175 ?_
              refine wg_sipush (v := 10000) X dX9_loop_176 (by decide) ?_
              refine wg_iadd X dX9_loop_179 ?_
              obtain ⟨v39, e40, h⟩ := lt_some h
              refine wg_istore_n (lv' := [(3, .int v39), (0, .ref (ad 55)), (1, .int x1), (2, .int x2), (4, .int x4), (5, .int x5), (6, .int x6)]) X dX9_loop_180 rfl e40 (by decide) rfl ?_
              obtain ⟨v41, e42, h⟩ := lt_some h
              refine wg_iinc (lv' := [(6, .int v41), (3, .int v39), (0, .ref (ad 55)), (1, .int x1), (2, .int x2), (4, .int x4), (5, .int x5)]) X 6 dX9_loop_181 rfl e42 (by decide) rfl ?_
              refine wg_goto X 96 dX9_loop_184 (by decide) ?_
              refine wg_pick [2, 3, 4, 1, 5, 6, 0] (lv' := [(0, .ref (ad 55)), (1, .int x1), (2, .int x2), (3, .int v39), (4, .int x4), (5, .int x5), (6, .int v41)]) rfl ?_
              exact Kc v39 v41 (sm_inj h).symm
set_option maxHeartbeats 4000000 in
set_option maxRecDepth 100000 in
theorem J_X9_loop_j93l31 {p : Program} {l : Launch} {e : Env} {s : State} {m : MethodId} {args : Array Value} {below : List Frame} {meth : Method} {c : Code} {E : wg_Ev} {ad : Nat → Nat} {S : wg_Sh} (X : wg_X p s m args meth c cX9_loop 7 RX9 E) (hr : meth.sig.returnType = (some .int)) (hS : wg_SM S) (r0 : Int32) (D0 : wg_M) (C : wg_C) (N : Nat)  (M : wg_M)  (x1 : Int32) (x2 : Int32) (x3 : Int32) (x4 : Int32) (x5 : Int32)  (y : ((Int32 × Int32) ⊕ (Int32 × Int32))) (Kc : ∀ (y3 : Int32) (y4 : Int32), y = Sum.inl (y3, y4) → G_X9_loop p l e s m args below meth c E ad S r0 C D0 31 C M [(0, .ref (ad 55)), (1, .int x1), (2, .int x2), (3, .int y3), (4, .int y4)] []) (Ke : ∀ (y3 : Int32) (y4 : Int32), y = Sum.inr ((y3, y4)) → G_X9_loop p l e s m args below meth c E ad S r0 C D0 193 C M [(0, .ref (ad 55)), (1, .int x1), (2, .int x2), (3, .int y3), (4, .int y4)] []) (h : f_X9_loop_j93l31 N M  x1 x2 x3 x4 x5 = some y) : G_X9_loop p l e s m args below meth c E ad S r0 C D0 93 C M [(0, .ref (ad 55)), (1, .int x1), (2, .int x2), (3, .int x3), (4, .int x4), (5, .int x5)] [] := by
  unfold f_X9_loop_j93l31 at h
  refine wg_iconst (v := 0) X dX9_loop_93 (by decide) ?_
  refine wg_istore (lv' := [(6, .int (0 : Int32)), (0, .ref (ad 55)), (1, .int x1), (2, .int x2), (3, .int x3), (4, .int x4), (5, .int x5)]) X dX9_loop_94 rfl (by decide) rfl ?_
  obtain ⟨o45, h46, h⟩ := bd2_o h
  refine wg_pick [1, 2, 3, 4, 5, 6, 0] (lv' := [(0, .ref (ad 55)), (1, .int x1), (2, .int x2), (3, .int x3), (4, .int x4), (5, .int x5), (6, .int (0 : Int32))]) rfl ?_
  refine L_X9_loop_l96 X hr hS r0 D0 C N  M  x1 x2 x4 x5  N x3 (0 : Int32) o45 h46 (fun v43 v44 e48 => ?_)
  · subst e48
    replace h := bd2_in h
    obtain ⟨v49, e50, h⟩ := lt_some h
    refine wg_iinc (lv' := [(4, .int v49), (0, .ref (ad 55)), (1, .int x1), (2, .int x2), (3, .int v43), (5, .int x5), (6, .int v44)]) X 4 dX9_loop_187 rfl e50 (by decide) rfl ?_
    refine wg_goto X 31 dX9_loop_190 (by decide) ?_
    refine wg_pick [1, 2, 3, 4, 0] (lv' := [(0, .ref (ad 55)), (1, .int x1), (2, .int x2), (3, .int v43), (4, .int v49)]) rfl ?_
    exact Kc v43 v49 (sm_inj h).symm
set_option maxHeartbeats 4000000 in
set_option maxRecDepth 100000 in
theorem L_X9_loop_l31 {p : Program} {l : Launch} {e : Env} {s : State} {m : MethodId} {args : Array Value} {below : List Frame} {meth : Method} {c : Code} {E : wg_Ev} {ad : Nat → Nat} {S : wg_Sh} (X : wg_X p s m args meth c cX9_loop 7 RX9 E) (hr : meth.sig.returnType = (some .int)) (hS : wg_SM S) (r0 : Int32) (D0 : wg_M) (C : wg_C) (N : Nat)  (M : wg_M)  (x1 : Int32) (x2 : Int32)  : ∀ (n : Nat) (x3 : Int32) (x4 : Int32) (o : (Int32 × Int32)), lp (fun o => f_X9_loop_l31 N M  x1 x2 o.1 o.2) n (x3, x4) = some o → (∀ (y3 : Int32) (y4 : Int32), o = (y3, y4) → G_X9_loop p l e s m args below meth c E ad S r0 C D0 193 C M [(0, .ref (ad 55)), (1, .int x1), (2, .int x2), (3, .int y3), (4, .int y4)] []) → G_X9_loop p l e s m args below meth c E ad S r0 C D0 31 C M [(0, .ref (ad 55)), (1, .int x1), (2, .int x2), (3, .int x3), (4, .int x4)] [] := by
  intro n
  induction n with
  | zero => exact fun _ _ o h => (lp_zero h).elim
  | succ n ih =>
    intro x3 x4 o h K
    obtain ⟨o1, hb, h2⟩ := lp_some h
    replace hb : f_X9_loop_l31 N M  x1 x2 x3 x4 = some o1 := hb
    clear h
    have Kc : ∀ (y3 : Int32) (y4 : Int32), o1 = Sum.inl (y3, y4) → G_X9_loop p l e s m args below meth c E ad S r0 C D0 31 C M [(0, .ref (ad 55)), (1, .int x1), (2, .int x2), (3, .int y3), (4, .int y4)] [] := fun y3 y4 e1 => by
      subst e1
      exact ih y3 y4 o h2 K
    have Ke : ∀ (y3 : Int32) (y4 : Int32), o1 = Sum.inr ((y3, y4)) → G_X9_loop p l e s m args below meth c E ad S r0 C D0 193 C M [(0, .ref (ad 55)), (1, .int x1), (2, .int x2), (3, .int y3), (4, .int y4)] [] := fun y3 y4 e1 => by
      subst e1
      exact K y3 y4 (sm_inj (α := (Int32 × Int32)) h2).symm
    clear ih K h2
    unfold f_X9_loop_l31 at hb
    have h := hb
    clear hb
    refine wg_iload X 4 dX9_loop_31 rfl ?_
    refine wg_sipush (v := 192) X dX9_loop_33 (by decide) ?_
    refine wg_icmp_ge X 193 dX9_loop_36 (by decide) (fun c9 => ?_) (fun c9 => ?_)
    · have h := if_t c9 h
      exact Ke x3 x4 (sm_inj h).symm
    · have h := if_f c9 h
      refine wg_aload_n X 0 dX9_loop_39 rfl rfl ?_
      refine wg_getR (b := 65) X cl9 (SMi hS 55 9 rfl) 30 (by decide) dX9_loop_40 k_912 rfl (SMr hS 30 65 rfl) ?_
      refine wg_iload X 4 dX9_loop_43 rfl ?_
      obtain ⟨z10, h⟩ := ck_some h
      refine wg_mald X (SMi hS 65 11 rfl) (SMl hS 65 192 rfl) z10 dX9_loop_45 ?_
      refine wg_ldcw (v := 99999999) X dX9_loop_46 k_1173 ?_
      refine wg_icmp_ge X 187 dX9_loop_49 (by decide) (fun c11 => ?_) (fun c11 => ?_)
      · have h := if_t c11 h
        obtain ⟨v12, e13, h⟩ := lt_some h
        refine wg_iinc (lv' := [(4, .int v12), (0, .ref (ad 55)), (1, .int x1), (2, .int x2), (3, .int x3)]) X 4 dX9_loop_187 rfl e13 (by decide) rfl ?_
        refine wg_goto X 31 dX9_loop_190 (by decide) ?_
        refine wg_pick [1, 2, 3, 4, 0] (lv' := [(0, .ref (ad 55)), (1, .int x1), (2, .int x2), (3, .int x3), (4, .int v12)]) rfl ?_
        exact Kc x3 v12 (sm_inj h).symm
      · have h := if_f c11 h
        refine wg_iload X 4 dX9_loop_52 rfl ?_
        refine wg_bipush (v := 32) X dX9_loop_54 (by decide) ?_
        refine wg_irem X dX9_loop_56 (by decide) ?_
        obtain ⟨v14, e15, h⟩ := lt_some h
        refine wg_istore (lv' := [(5, .int v14), (0, .ref (ad 55)), (1, .int x1), (2, .int x2), (3, .int x3), (4, .int x4)]) X dX9_loop_57 e15 (by decide) rfl ?_
        refine wg_iload X 0 dX9_loop_59 rfl ?_
        refine wg_bipush (v := 31) X dX9_loop_61 (by decide) ?_
        refine wg_icmp_ge X 93 dX9_loop_63 (by decide) (fun c16 => ?_) (fun c16 => ?_)
        · have h := if_t c16 h
          refine wg_pick [1, 2, 3, 4, 5, 0] (lv' := [(0, .ref (ad 55)), (1, .int x1), (2, .int x2), (3, .int x3), (4, .int x4), (5, .int v14)]) rfl ?_
          exact J_X9_loop_j93l31 X hr hS r0 D0 C N  M  x1 x2 x3 x4 v14  _ Kc Ke h
        · have h := if_f c16 h
          refine wg_iload X 5 dX9_loop_66 rfl ?_
          refine wg_iconst (v := 1) X dX9_loop_68 (by decide) ?_
          refine wg_iadd X dX9_loop_69 ?_
          refine wg_iload_n X 2 dX9_loop_70 rfl rfl ?_
          refine wg_icmp_ne X 93 dX9_loop_71 (by decide) (fun c51 => ?_) (fun c51 => ?_)
          · have h := if_f c51 h
            refine wg_pick [1, 2, 3, 4, 5, 0] (lv' := [(0, .ref (ad 55)), (1, .int x1), (2, .int x2), (3, .int x3), (4, .int x4), (5, .int v14)]) rfl ?_
            exact J_X9_loop_j93l31 X hr hS r0 D0 C N  M  x1 x2 x3 x4 v14  _ Kc Ke h
          · have h := if_t c51 h
            refine wg_aload_n X 1 dX9_loop_74 rfl rfl ?_
            refine wg_getR (b := 65) X cl9 (SMi hS 55 9 rfl) 30 (by decide) dX9_loop_75 k_912 rfl (SMr hS 30 65 rfl) ?_
            refine wg_iload X 5 dX9_loop_78 rfl ?_
            obtain ⟨z52, h⟩ := ck_some h
            refine wg_mald X (SMi hS 65 11 rfl) (SMl hS 65 192 rfl) z52 dX9_loop_80 ?_
            refine wg_iload_n X 4 dX9_loop_81 rfl rfl ?_
            refine wg_icmp_ge X 93 dX9_loop_82 (by decide) (fun c53 => ?_) (fun c53 => ?_)
            · have h := if_t c53 h
              refine wg_pick [1, 2, 3, 4, 5, 0] (lv' := [(0, .ref (ad 55)), (1, .int x1), (2, .int x2), (3, .int x3), (4, .int x4), (5, .int v14)]) rfl ?_
              exact J_X9_loop_j93l31 X hr hS r0 D0 C N  M  x1 x2 x3 x4 v14  _ Kc Ke h
            · have h := if_f c53 h
              refine wg_aload_n X 1 dX9_loop_85 rfl rfl ?_
              refine wg_getR (b := 65) X cl9 (SMi hS 55 9 rfl) 30 (by decide) dX9_loop_86 k_912 rfl (SMr hS 30 65 rfl) ?_
              refine wg_iload X 5 dX9_loop_89 rfl ?_
              obtain ⟨z54, h⟩ := ck_some h
              refine wg_mald X (SMi hS 65 11 rfl) (SMl hS 65 192 rfl) z54 dX9_loop_91 ?_
              obtain ⟨v55, e56, h⟩ := lt_some h
              refine wg_istore_n (lv' := [(3, .int v55), (5, .int v14), (0, .ref (ad 55)), (1, .int x1), (2, .int x2), (4, .int x4)]) X dX9_loop_92 rfl e56 (by decide) rfl ?_
              refine wg_pick [2, 3, 4, 0, 5, 1] (lv' := [(0, .ref (ad 55)), (1, .int x1), (2, .int x2), (3, .int v55), (4, .int x4), (5, .int v14)]) rfl ?_
              exact J_X9_loop_j93l31 X hr hS r0 D0 C N  M  x1 x2 v55 x4 v14  _ Kc Ke h
set_option maxHeartbeats 4000000 in
set_option maxRecDepth 100000 in
theorem c_X9_loop (l : Launch) (E : wg_Ev) (ad : Nat → Nat) (S : wg_Sh) (hS : wg_SM S) (N : Nat) (C : wg_C) (M : wg_M) (p1 : Int32) (p2 : Int32)  {r0 : Int32} {D0 : wg_M} (h : f_X9_loop N M p1 p2 = some (r0, D0)) : wg_Ci l yX9_loop cX9_loop 7 (some .int) 77 2978 E ad S C M [.ref (ad 55), .int p1, .int p2] r0 C D0 := by
  refine wg_start (own := RX9) (by decide +kernel) rfl (Nat.le_of_ble_eq_true rfl) ?_
  intro p e s m below meth c X hr hnm
  refine wg_lv (lv' := [(0, .ref (ad 55)), (1, .int p1), (2, .int p2)]) rfl ?_
  unfold f_X9_loop at h
  refine wg_iload_n X 1 dX9_loop_0 rfl rfl ?_
  obtain ⟨r2, h1, h⟩ := bd_some h
  refine wg_callSi (As := [.int p1]) (rest := []) X (c_X9_isSpot l E ad S C M p1  h1) T_yX9_isSpot k_1158 dX9_loop_1 rfl rfl (Nat.le_of_ble_eq_true rfl) ⟨Nat.le_of_ble_eq_true rfl, Nat.le_of_ble_eq_true rfl⟩ ⟨Nat.zero_le _, Nat.zero_le _⟩ ?_
  refine wg_if_eq X 14 dX9_loop_4 (by decide) (fun c3 => ?_) (fun c3 => ?_)
  · have h := if_t c3 h
    refine wg_bipush (v := -2) X dX9_loop_14 (by decide) ?_
    exact wg_iret X ⟨(Prod.mk.inj (sm_inj h)).1, rfl, (Prod.mk.inj (sm_inj h)).2⟩ hr dX9_loop_16
  · have h := if_f c3 h
    refine wg_iload_n X 2 dX9_loop_7 rfl rfl ?_
    obtain ⟨r5, h4, h⟩ := bd_some h
    refine wg_callSi (As := [.int p2]) (rest := []) X (c_X9_isSort l E ad S C M p2  h4) T_yX9_isSort k_1058 dX9_loop_8 rfl rfl (Nat.le_of_ble_eq_true rfl) ⟨Nat.le_of_ble_eq_true rfl, Nat.le_of_ble_eq_true rfl⟩ ⟨Nat.zero_le _, Nat.zero_le _⟩ ?_
    refine wg_if_ne X 17 dX9_loop_11 (by decide) (fun c6 => ?_) (fun c6 => ?_)
    · have h := if_f c6 h
      refine wg_aload_n X 0 dX9_loop_17 rfl rfl ?_
      refine wg_iload_n X 1 dX9_loop_18 rfl rfl ?_
      refine wg_iload_n X 2 dX9_loop_19 rfl rfl ?_
      refine wg_iconst (v := 0) X dX9_loop_20 (by decide) ?_
      obtain ⟨M8, h7, h⟩ := bd_some h
      refine wg_callVv (As := [.int p1, .int p2, .int (0 : Int32)]) (rest := []) X (c_X9_spreads l E ad S hS N C M p1 p2 (0 : Int32)  h7) T_yX9_spreads k_1162 cl9 (SMi hS 55 9 rfl) dX9_loop_21 rfl rfl (Nat.le_of_ble_eq_true rfl) ⟨Nat.le_of_ble_eq_true rfl, Nat.le_of_ble_eq_true rfl⟩ ⟨Nat.zero_le _, Nat.zero_le _⟩ ?_
      refine wg_ldcw (v := 99999999) X dX9_loop_24 k_1173 ?_
      refine wg_istore_n (lv' := [(3, .int (99999999 : Int32)), (0, .ref (ad 55)), (1, .int p1), (2, .int p2)]) X dX9_loop_27 rfl rfl (by decide) rfl ?_
      refine wg_iconst (v := 0) X dX9_loop_28 (by decide) ?_
      refine wg_istore (lv' := [(4, .int (0 : Int32)), (3, .int (99999999 : Int32)), (0, .ref (ad 55)), (1, .int p1), (2, .int p2)]) X dX9_loop_29 rfl (by decide) rfl ?_
      obtain ⟨o59, h60, h⟩ := bd2_o h
      refine wg_pick [2, 3, 4, 1, 0] (lv' := [(0, .ref (ad 55)), (1, .int p1), (2, .int p2), (3, .int (99999999 : Int32)), (4, .int (0 : Int32))]) rfl ?_
      refine L_X9_loop_l31 X hr hS r0 D0 C N  M8  p1 p2  N (99999999 : Int32) (0 : Int32) o59 h60 (fun v57 v58 e62 => ?_)
      · subst e62
        replace h := bd2_in h
        refine wg_iload_n X 3 dX9_loop_193 rfl rfl ?_
        refine wg_ldcw (v := 99999999) X dX9_loop_194 k_1173 ?_
        refine wg_icmp_ne X 204 dX9_loop_197 (by decide) (fun c63 => ?_) (fun c63 => ?_)
        · have h := if_f c63 h
          refine wg_iload_n X 3 dX9_loop_204 rfl rfl ?_
          refine wg_sipush (v := 10000) X dX9_loop_205 (by decide) ?_
          refine wg_idiv X dX9_loop_208 (by decide) ?_
          exact wg_iret X ⟨(Prod.mk.inj (sm_inj h)).1, rfl, (Prod.mk.inj (sm_inj h)).2⟩ hr dX9_loop_209
        · have h := if_t c63 h
          refine wg_iconst (v := -1) X dX9_loop_200 (by decide) ?_
          refine wg_goto X 209 dX9_loop_201 (by decide) ?_
          exact wg_iret X ⟨(Prod.mk.inj (sm_inj h)).1, rfl, (Prod.mk.inj (sm_inj h)).2⟩ hr dX9_loop_209
    · have h := if_t c6 h
      refine wg_bipush (v := -2) X dX9_loop_14 (by decide) ?_
      exact wg_iret X ⟨(Prod.mk.inj (sm_inj h)).1, rfl, (Prod.mk.inj (sm_inj h)).2⟩ hr dX9_loop_16
