-- WindowsGive$Rules.reckon(LWindowsGive$Text;I)I (('c', 31), 'TX', 'i')
def f_X3_reckon_j54l9 (N : Nat) (S : wg_Sh) (p1 : Nat) (C : wg_C)  (x2 : Int32) (x3 : Int32) (x4 : Int32) (x5 : Int32) (x6 : Int32) : Option ((wg_C × Int32 × Int32) ⊕ ((wg_C × Int32 × Int32) ⊕ (Int32 × wg_C))) :=
  if x3 < (160 : Int32) then (
    if x5 = 0 then (
      ck (inb x3 160) <|
      lt_ (wg_up C 34 x3.toNatClampNeg x6) fun C25 =>
      lt_ (x3 + (1 : Int32)) fun v27 =>
      lt_ (x4 + (1 : Int32)) fun v29 =>
      some (.inl (C25, v27, v29)))
    else (
      bd (f_X3_nameOf C x6) fun r16 =>
      ck (inb x3 160) <|
      lt_ (wg_up C 34 x3.toNatClampNeg r16) fun C18 =>
      lt_ (x3 + (1 : Int32)) fun v20 =>
      lt_ (x4 + (1 : Int32)) fun v22 =>
      some (.inl (C18, v20, v22))))
  else (
    some (.inr (.inr ((0 : Int32), C))))
def f_X3_reckon_j105l9 (N : Nat) (S : wg_Sh) (p1 : Nat) (C : wg_C)  (x2 : Int32) (x3 : Int32) (x4 : Int32) (x5 : Int32) : Option ((wg_C × Int32 × Int32) ⊕ ((wg_C × Int32 × Int32) ⊕ (Int32 × wg_C))) :=
  if (1 : Int32) ≤ x3 then (
    ck (inb (x3 - (1 : Int32)) 160) <|
    lt_ (C 34 (x3 - (1 : Int32)).toNatClampNeg) fun v35 =>
    if x5 = (2 : Int32) then (
      ck (inb (x3 - (1 : Int32)) 160) <|
      lt_ (wg_up C 34 (x3 - (1 : Int32)).toNatClampNeg (-v35)) fun C54 =>
      lt_ (x4 + (1 : Int32)) fun v56 =>
      some (.inl (C54, x3, v56)))
    else (
      if v35 = 0 then (
        bd (f_X3_truth (1 : Int32)) fun r47 =>
        ck (inb (x3 - (1 : Int32)) 160) <|
        lt_ (wg_up C 34 (x3 - (1 : Int32)).toNatClampNeg r47) fun C49 =>
        lt_ (x4 + (1 : Int32)) fun v51 =>
        some (.inl (C49, x3, v51)))
      else (
        bd (f_X3_truth (0 : Int32)) fun r40 =>
        ck (inb (x3 - (1 : Int32)) 160) <|
        lt_ (wg_up C 34 (x3 - (1 : Int32)).toNatClampNeg r40) fun C42 =>
        lt_ (x4 + (1 : Int32)) fun v44 =>
        some (.inl (C42, x3, v44)))))
  else (
    some (.inr (.inr ((0 : Int32), C))))
def f_X3_reckon_l9 (N : Nat) (S : wg_Sh) (p1 : Nat)  (x2 : Int32) (C : wg_C) (x3 : Int32) (x4 : Int32) : Option ((wg_C × Int32 × Int32) ⊕ ((wg_C × Int32 × Int32) ⊕ (Int32 × wg_C))) :=
  bd (f_X6_end S C p1 x2) fun r4 =>
  if r4 ≤ x4 then (
    some (.inr (.inl (C, x3, x4))))
  else (
    ck (inb x4 (S.2.1 (p1 + 1))) <|
    lt_ ((C (p1 + 1) x4.toNatClampNeg) - (C (p1 + 1) x4.toNatClampNeg) / (16 : Int32) * (16 : Int32)) fun v7 =>
    ck (inb x4 (S.2.1 (p1 + 1))) <|
    lt_ ((C (p1 + 1) x4.toNatClampNeg) / (16 : Int32)) fun v10 =>
    if v7 = 0 then (
      f_X3_reckon_j54l9 N S p1 C  x2 x3 x4 v7 v10)
    else (
      if v7 = (1 : Int32) then (
        f_X3_reckon_j54l9 N S p1 C  x2 x3 x4 v7 v10)
      else (
        if v7 = (2 : Int32) then (
          f_X3_reckon_j105l9 N S p1 C  x2 x3 x4 v7)
        else (
          if v7 = (3 : Int32) then (
            f_X3_reckon_j105l9 N S p1 C  x2 x3 x4 v7)
          else (
            if (2 : Int32) ≤ x3 then (
              lt_ (x3 + (-1 : Int32)) fun v60 =>
              ck (inb (v60 - (1 : Int32)) 160) <|
              ck (inb v60 160) <|
              bd (f_X3_joined v7 (C 34 (v60 - (1 : Int32)).toNatClampNeg) (C 34 v60.toNatClampNeg)) fun r65 =>
              ck (inb (v60 - (1 : Int32)) 160) <|
              lt_ (wg_up C 34 (v60 - (1 : Int32)).toNatClampNeg r65) fun C67 =>
              lt_ (x4 + (1 : Int32)) fun v69 =>
              some (.inl (C67, v60, v69)))
            else (
              some (.inr (.inr ((0 : Int32), C)))))))))
def f_X3_reckon (N : Nat) (S : wg_Sh) (C : wg_C) (p1 : Nat) (p2 : Int32) : Option (Int32 × wg_C) :=
  bd (f_X6_start S C p1 p2) fun r2 =>
  bs3 (lp (fun o => f_X3_reckon_l9 N S p1  p2 o.1 o.2.1 o.2.2) N (C, (0 : Int32), r2)) (fun C71 v72 v73 =>
    if v72 ≤ 0 then (
      some ((0 : Int32), C71))
    else (
      ck (inb (v72 - (1 : Int32)) 160) <|
      some ((C71 34 (v72 - (1 : Int32)).toNatClampNeg), C71)))
    (fun q76 => some q76)
abbrev G_X3_reckon (p : Program) (l : Launch) (e : Env) (s : State) (m : MethodId) (args : Array Value) (below : List Frame) (meth : Method) (c : Code) (E : wg_Ev) (ad : Nat → Nat) (S : wg_Sh) (r0 : Int32) (C0 : wg_C) (M0 : wg_M) (pc : Nat) (C : wg_C) (M : wg_M) (lv : List (Nat × Value)) (st : List Value) : Prop := wg_G p l e (wg_Rm 2 42) s m args below meth c (MQ below (wg_Qi E ad S r0 C0 M0) args s 0 0 (wg_A E)) 8 E ad S 0 0 pc C M lv st
set_option maxHeartbeats 4000000 in
set_option maxRecDepth 100000 in
theorem J_X3_reckon_j54l9 {p : Program} {l : Launch} {e : Env} {s : State} {m : MethodId} {args : Array Value} {below : List Frame} {meth : Method} {c : Code} {E : wg_Ev} {ad : Nat → Nat} {S : wg_Sh} (X : wg_X p s m args meth c cX3_reckon 8 RX3 E) (hr : meth.sig.returnType = (some .int)) (hS : wg_SC S) (r0 : Int32) (D0 : wg_C) (M : wg_M) (N : Nat) (p1 : Nat) (hp1 : wg_Txt S p1) (C : wg_C)  (x2 : Int32) (x3 : Int32) (x4 : Int32) (x5 : Int32) (x6 : Int32)  (y : ((wg_C × Int32 × Int32) ⊕ ((wg_C × Int32 × Int32) ⊕ (Int32 × wg_C)))) (Kc : ∀ (Dy : wg_C) (y3 : Int32) (y4 : Int32), y = Sum.inl (Dy, y3, y4) → G_X3_reckon p l e s m args below meth c E ad S r0 D0 M 9 Dy M [(0, .ref (ad 31)), (1, .ref (ad p1)), (2, .int x2), (3, .int y3), (4, .int y4)] []) (Ke : ∀ (Dy : wg_C) (y3 : Int32) (y4 : Int32), y = Sum.inr (Sum.inl (Dy, y3, y4)) → G_X3_reckon p l e s m args below meth c E ad S r0 D0 M 201 Dy M [(0, .ref (ad 31)), (1, .ref (ad p1)), (2, .int x2), (3, .int y3), (4, .int y4)] []) (Kr : ∀ q : (Int32 × wg_C), y = Sum.inr (Sum.inr q) → q = (r0, D0)) (h : f_X3_reckon_j54l9 N S p1 C  x2 x3 x4 x5 x6 = some y) : G_X3_reckon p l e s m args below meth c E ad S r0 D0 M 54 C M [(0, .ref (ad 31)), (1, .ref (ad p1)), (2, .int x2), (3, .int x3), (4, .int x4), (5, .int x5), (6, .int x6)] [] := by
  unfold f_X3_reckon_j54l9 at h
  refine wg_iload_n X 3 dX3_reckon_54 rfl rfl ?_
  refine wg_aload_n X 0 dX3_reckon_55 rfl rfl ?_
  refine wg_getR (b := 34) X cl3 (SCi hS 31 3 rfl) 3 (by decide) dX3_reckon_56 k_232 rfl (SCr hS 31 3 34 rfl) ?_
  refine wg_alenC (v := 160) X (SCi hS 34 10 rfl) (SCl hS 34 160 rfl) (by decide) dX3_reckon_59 ?_
  refine wg_icmp_lt X 65 dX3_reckon_60 (by decide) (fun c13 => ?_) (fun c13 => ?_)
  · have h := if_t c13 h
    refine wg_aload_n X 0 dX3_reckon_65 rfl rfl ?_
    refine wg_getR (b := 34) X cl3 (SCi hS 31 3 rfl) 3 (by decide) dX3_reckon_66 k_232 rfl (SCr hS 31 3 34 rfl) ?_
    refine wg_iload_n X 3 dX3_reckon_69 rfl rfl ?_
    refine wg_iload X 5 dX3_reckon_70 rfl ?_
    refine wg_if_ne X 80 dX3_reckon_72 (by decide) (fun c14 => ?_) (fun c14 => ?_)
    · have h := if_f c14 h
      refine wg_aload_n X 0 dX3_reckon_80 rfl rfl ?_
      refine wg_iload X 6 dX3_reckon_81 rfl ?_
      obtain ⟨r16, h15, h⟩ := bd_some h
      refine wg_callVi (As := [.int x6]) (rest := [.int x3, .ref (ad 34)]) X (c_X3_nameOf l E ad S hS C M x6  h15) T_yX3_nameOf k_629 cl3 (SCi hS 31 3 rfl) dX3_reckon_83 rfl rfl (Nat.le_of_ble_eq_true rfl) ⟨Nat.le_of_ble_eq_true rfl, Nat.le_of_ble_eq_true rfl⟩ ⟨Nat.zero_le _, Nat.zero_le _⟩ ?_
      obtain ⟨z17, h⟩ := ck_some h
      obtain ⟨C18, e19, h⟩ := lt_some h
      refine wg_iaste X (SCi hS 34 10 rfl) (SCl hS 34 160 rfl) z17 dX3_reckon_86 e19 ?_
      obtain ⟨v20, e21, h⟩ := lt_some h
      refine wg_iinc (lv' := [(3, .int v20), (0, .ref (ad 31)), (1, .ref (ad p1)), (2, .int x2), (4, .int x4), (5, .int x5), (6, .int x6)]) X 3 dX3_reckon_87 rfl e21 (by decide) rfl ?_
      refine wg_goto X 195 dX3_reckon_90 (by decide) ?_
      obtain ⟨v22, e23, h⟩ := lt_some h
      refine wg_iinc (lv' := [(4, .int v22), (3, .int v20), (0, .ref (ad 31)), (1, .ref (ad p1)), (2, .int x2), (5, .int x5), (6, .int x6)]) X 4 dX3_reckon_195 rfl e23 (by decide) rfl ?_
      refine wg_goto X 9 dX3_reckon_198 (by decide) ?_
      refine wg_pick [2, 3, 4, 1, 0] (lv' := [(0, .ref (ad 31)), (1, .ref (ad p1)), (2, .int x2), (3, .int v20), (4, .int v22)]) rfl ?_
      exact Kc C18 v20 v22 (sm_inj h).symm
    · have h := if_t c14 h
      refine wg_iload X 6 dX3_reckon_75 rfl ?_
      refine wg_goto X 86 dX3_reckon_77 (by decide) ?_
      obtain ⟨z24, h⟩ := ck_some h
      obtain ⟨C25, e26, h⟩ := lt_some h
      refine wg_iaste X (SCi hS 34 10 rfl) (SCl hS 34 160 rfl) z24 dX3_reckon_86 e26 ?_
      obtain ⟨v27, e28, h⟩ := lt_some h
      refine wg_iinc (lv' := [(3, .int v27), (0, .ref (ad 31)), (1, .ref (ad p1)), (2, .int x2), (4, .int x4), (5, .int x5), (6, .int x6)]) X 3 dX3_reckon_87 rfl e28 (by decide) rfl ?_
      refine wg_goto X 195 dX3_reckon_90 (by decide) ?_
      obtain ⟨v29, e30, h⟩ := lt_some h
      refine wg_iinc (lv' := [(4, .int v29), (3, .int v27), (0, .ref (ad 31)), (1, .ref (ad p1)), (2, .int x2), (5, .int x5), (6, .int x6)]) X 4 dX3_reckon_195 rfl e30 (by decide) rfl ?_
      refine wg_goto X 9 dX3_reckon_198 (by decide) ?_
      refine wg_pick [2, 3, 4, 1, 0] (lv' := [(0, .ref (ad 31)), (1, .ref (ad p1)), (2, .int x2), (3, .int v27), (4, .int v29)]) rfl ?_
      exact Kc C25 v27 v29 (sm_inj h).symm
  · have h := if_f c13 h
    refine wg_iconst (v := 0) X dX3_reckon_63 (by decide) ?_
    have hq := Kr _ (sm_inj h).symm
    exact wg_iret X ⟨(Prod.mk.inj hq).1, (Prod.mk.inj hq).2, rfl⟩ hr dX3_reckon_64
set_option maxHeartbeats 4000000 in
set_option maxRecDepth 100000 in
theorem J_X3_reckon_j105l9 {p : Program} {l : Launch} {e : Env} {s : State} {m : MethodId} {args : Array Value} {below : List Frame} {meth : Method} {c : Code} {E : wg_Ev} {ad : Nat → Nat} {S : wg_Sh} (X : wg_X p s m args meth c cX3_reckon 8 RX3 E) (hr : meth.sig.returnType = (some .int)) (hS : wg_SC S) (r0 : Int32) (D0 : wg_C) (M : wg_M) (N : Nat) (p1 : Nat) (hp1 : wg_Txt S p1) (C : wg_C)  (x2 : Int32) (x3 : Int32) (x4 : Int32) (x5 : Int32)  (y : ((wg_C × Int32 × Int32) ⊕ ((wg_C × Int32 × Int32) ⊕ (Int32 × wg_C)))) (Kc : ∀ (Dy : wg_C) (y3 : Int32) (y4 : Int32), y = Sum.inl (Dy, y3, y4) → G_X3_reckon p l e s m args below meth c E ad S r0 D0 M 9 Dy M [(0, .ref (ad 31)), (1, .ref (ad p1)), (2, .int x2), (3, .int y3), (4, .int y4)] []) (Ke : ∀ (Dy : wg_C) (y3 : Int32) (y4 : Int32), y = Sum.inr (Sum.inl (Dy, y3, y4)) → G_X3_reckon p l e s m args below meth c E ad S r0 D0 M 201 Dy M [(0, .ref (ad 31)), (1, .ref (ad p1)), (2, .int x2), (3, .int y3), (4, .int y4)] []) (Kr : ∀ q : (Int32 × wg_C), y = Sum.inr (Sum.inr q) → q = (r0, D0)) (h : f_X3_reckon_j105l9 N S p1 C  x2 x3 x4 x5 = some y) : G_X3_reckon p l e s m args below meth c E ad S r0 D0 M 105 C M [(0, .ref (ad 31)), (1, .ref (ad p1)), (2, .int x2), (3, .int x3), (4, .int x4), (5, .int x5)] [] := by
  unfold f_X3_reckon_j105l9 at h
  refine wg_iload_n X 3 dX3_reckon_105 rfl rfl ?_
  refine wg_iconst (v := 1) X dX3_reckon_106 (by decide) ?_
  refine wg_icmp_ge X 112 dX3_reckon_107 (by decide) (fun c33 => ?_) (fun c33 => ?_)
  · have h := if_t c33 h
    refine wg_aload_n X 0 dX3_reckon_112 rfl rfl ?_
    refine wg_getR (b := 34) X cl3 (SCi hS 31 3 rfl) 3 (by decide) dX3_reckon_113 k_232 rfl (SCr hS 31 3 34 rfl) ?_
    refine wg_iload_n X 3 dX3_reckon_116 rfl rfl ?_
    refine wg_iconst (v := 1) X dX3_reckon_117 (by decide) ?_
    refine wg_isub X dX3_reckon_118 ?_
    obtain ⟨z34, h⟩ := ck_some h
    refine wg_iald X (SCi hS 34 10 rfl) (SCl hS 34 160 rfl) z34 dX3_reckon_119 ?_
    obtain ⟨v35, e36, h⟩ := lt_some h
    refine wg_istore (lv' := [(7, .int v35), (0, .ref (ad 31)), (1, .ref (ad p1)), (2, .int x2), (3, .int x3), (4, .int x4), (5, .int x5)]) X dX3_reckon_120 e36 (by decide) rfl ?_
    refine wg_aload_n X 1 dX3_reckon_122 rfl rfl ?_
    refine wg_getR (b := 34) X cl3 (SCi hS 31 3 rfl) 3 (by decide) dX3_reckon_123 k_232 rfl (SCr hS 31 3 34 rfl) ?_
    refine wg_iload_n X 4 dX3_reckon_126 rfl rfl ?_
    refine wg_iconst (v := 1) X dX3_reckon_127 (by decide) ?_
    refine wg_isub X dX3_reckon_128 ?_
    refine wg_iload X 6 dX3_reckon_129 rfl ?_
    refine wg_iconst (v := 2) X dX3_reckon_131 (by decide) ?_
    refine wg_icmp_ne X 141 dX3_reckon_132 (by decide) (fun c37 => ?_) (fun c37 => ?_)
    · have h := if_f c37 h
      refine wg_iload X 0 dX3_reckon_141 rfl ?_
      refine wg_if_ne X 150 dX3_reckon_143 (by decide) (fun c38 => ?_) (fun c38 => ?_)
      · have h := if_f c38 h
        refine wg_iconst (v := 0) X dX3_reckon_150 (by decide) ?_
        obtain ⟨r40, h39, h⟩ := bd_some h
        refine wg_callSi (As := [.int (0 : Int32)]) (rest := [.int (x3 - (1 : Int32)), .ref (ad 34)]) X (c_X3_truth l E ad S C M (0 : Int32)  h39) T_yX3_truth k_633 dX3_reckon_151 rfl rfl (Nat.le_of_ble_eq_true rfl) ⟨Nat.le_of_ble_eq_true rfl, Nat.le_of_ble_eq_true rfl⟩ ⟨Nat.zero_le _, Nat.zero_le _⟩ ?_
        obtain ⟨z41, h⟩ := ck_some h
        obtain ⟨C42, e43, h⟩ := lt_some h
        refine wg_iaste X (SCi hS 34 10 rfl) (SCl hS 34 160 rfl) z41 dX3_reckon_154 e43 ?_
        refine wg_goto X 195 dX3_reckon_155 (by decide) ?_
        obtain ⟨v44, e45, h⟩ := lt_some h
        refine wg_iinc (lv' := [(4, .int v44), (7, .int v35), (0, .ref (ad 31)), (1, .ref (ad p1)), (2, .int x2), (3, .int x3), (5, .int x5)]) X 5 dX3_reckon_195 rfl e45 (by decide) rfl ?_
        refine wg_goto X 9 dX3_reckon_198 (by decide) ?_
        refine wg_pick [2, 3, 4, 5, 0] (lv' := [(0, .ref (ad 31)), (1, .ref (ad p1)), (2, .int x2), (3, .int x3), (4, .int v44)]) rfl ?_
        exact Kc C42 x3 v44 (sm_inj h).symm
      · have h := if_t c38 h
        refine wg_iconst (v := 1) X dX3_reckon_146 (by decide) ?_
        refine wg_goto X 151 dX3_reckon_147 (by decide) ?_
        obtain ⟨r47, h46, h⟩ := bd_some h
        refine wg_callSi (As := [.int (1 : Int32)]) (rest := [.int (x3 - (1 : Int32)), .ref (ad 34)]) X (c_X3_truth l E ad S C M (1 : Int32)  h46) T_yX3_truth k_633 dX3_reckon_151 rfl rfl (Nat.le_of_ble_eq_true rfl) ⟨Nat.le_of_ble_eq_true rfl, Nat.le_of_ble_eq_true rfl⟩ ⟨Nat.zero_le _, Nat.zero_le _⟩ ?_
        obtain ⟨z48, h⟩ := ck_some h
        obtain ⟨C49, e50, h⟩ := lt_some h
        refine wg_iaste X (SCi hS 34 10 rfl) (SCl hS 34 160 rfl) z48 dX3_reckon_154 e50 ?_
        refine wg_goto X 195 dX3_reckon_155 (by decide) ?_
        obtain ⟨v51, e52, h⟩ := lt_some h
        refine wg_iinc (lv' := [(4, .int v51), (7, .int v35), (0, .ref (ad 31)), (1, .ref (ad p1)), (2, .int x2), (3, .int x3), (5, .int x5)]) X 5 dX3_reckon_195 rfl e52 (by decide) rfl ?_
        refine wg_goto X 9 dX3_reckon_198 (by decide) ?_
        refine wg_pick [2, 3, 4, 5, 0] (lv' := [(0, .ref (ad 31)), (1, .ref (ad p1)), (2, .int x2), (3, .int x3), (4, .int v51)]) rfl ?_
        exact Kc C49 x3 v51 (sm_inj h).symm
    · have h := if_t c37 h
      refine wg_iload X 0 dX3_reckon_135 rfl ?_
      refine wg_ineg X dX3_reckon_137 ?_
      refine wg_goto X 154 dX3_reckon_138 (by decide) ?_
      obtain ⟨z53, h⟩ := ck_some h
      obtain ⟨C54, e55, h⟩ := lt_some h
      refine wg_iaste X (SCi hS 34 10 rfl) (SCl hS 34 160 rfl) z53 dX3_reckon_154 e55 ?_
      refine wg_goto X 195 dX3_reckon_155 (by decide) ?_
      obtain ⟨v56, e57, h⟩ := lt_some h
      refine wg_iinc (lv' := [(4, .int v56), (7, .int v35), (0, .ref (ad 31)), (1, .ref (ad p1)), (2, .int x2), (3, .int x3), (5, .int x5)]) X 5 dX3_reckon_195 rfl e57 (by decide) rfl ?_
      refine wg_goto X 9 dX3_reckon_198 (by decide) ?_
      refine wg_pick [2, 3, 4, 5, 0] (lv' := [(0, .ref (ad 31)), (1, .ref (ad p1)), (2, .int x2), (3, .int x3), (4, .int v56)]) rfl ?_
      exact Kc C54 x3 v56 (sm_inj h).symm
  · have h := if_f c33 h
    refine wg_iconst (v := 0) X dX3_reckon_110 (by decide) ?_
    have hq := Kr _ (sm_inj h).symm
    exact wg_iret X ⟨(Prod.mk.inj hq).1, (Prod.mk.inj hq).2, rfl⟩ hr dX3_reckon_111
set_option maxHeartbeats 4000000 in
set_option maxRecDepth 100000 in
theorem L_X3_reckon_l9 {p : Program} {l : Launch} {e : Env} {s : State} {m : MethodId} {args : Array Value} {below : List Frame} {meth : Method} {c : Code} {E : wg_Ev} {ad : Nat → Nat} {S : wg_Sh} (X : wg_X p s m args meth c cX3_reckon 8 RX3 E) (hr : meth.sig.returnType = (some .int)) (hS : wg_SC S) (r0 : Int32) (D0 : wg_C) (M : wg_M) (N : Nat) (p1 : Nat) (hp1 : wg_Txt S p1)  (x2 : Int32)  : ∀ (n : Nat) (C : wg_C) (x3 : Int32) (x4 : Int32) (o : ((wg_C × Int32 × Int32) ⊕ (Int32 × wg_C))), lp (fun o => f_X3_reckon_l9 N S p1  x2 o.1 o.2.1 o.2.2) n (C, x3, x4) = some o → (∀ (Dy : wg_C) (y3 : Int32) (y4 : Int32), o = Sum.inl (Dy, y3, y4) → G_X3_reckon p l e s m args below meth c E ad S r0 D0 M 201 Dy M [(0, .ref (ad 31)), (1, .ref (ad p1)), (2, .int x2), (3, .int y3), (4, .int y4)] []) → (∀ q : (Int32 × wg_C), o = Sum.inr q → q = (r0, D0)) → G_X3_reckon p l e s m args below meth c E ad S r0 D0 M 9 C M [(0, .ref (ad 31)), (1, .ref (ad p1)), (2, .int x2), (3, .int x3), (4, .int x4)] [] := by
  intro n
  induction n with
  | zero => exact fun _ _ _ o h => (lp_zero h).elim
  | succ n ih =>
    intro C x3 x4 o h K KR
    obtain ⟨o1, hb, h2⟩ := lp_some h
    replace hb : f_X3_reckon_l9 N S p1  x2 C x3 x4 = some o1 := hb
    clear h
    have Kc : ∀ (Dy : wg_C) (y3 : Int32) (y4 : Int32), o1 = Sum.inl (Dy, y3, y4) → G_X3_reckon p l e s m args below meth c E ad S r0 D0 M 9 Dy M [(0, .ref (ad 31)), (1, .ref (ad p1)), (2, .int x2), (3, .int y3), (4, .int y4)] [] := fun Dy y3 y4 e1 => by
      subst e1
      exact ih Dy y3 y4 o h2 K KR
    have Ke : ∀ (Dy : wg_C) (y3 : Int32) (y4 : Int32), o1 = Sum.inr (Sum.inl (Dy, y3, y4)) → G_X3_reckon p l e s m args below meth c E ad S r0 D0 M 201 Dy M [(0, .ref (ad 31)), (1, .ref (ad p1)), (2, .int x2), (3, .int y3), (4, .int y4)] [] := fun Dy y3 y4 e1 => by
      subst e1
      exact K Dy y3 y4 (sm_inj (α := ((wg_C × Int32 × Int32) ⊕ (Int32 × wg_C))) h2).symm
    have Kr : ∀ q : (Int32 × wg_C), o1 = Sum.inr (Sum.inr q) → q = (r0, D0) := fun q e1 => by
      subst e1
      exact KR q (sm_inj (α := ((wg_C × Int32 × Int32) ⊕ (Int32 × wg_C))) h2).symm
    clear ih K h2 KR
    unfold f_X3_reckon_l9 at hb
    have h := hb
    clear hb
    refine wg_iload X 4 dX3_reckon_9 rfl ?_
    refine wg_aload_n X 1 dX3_reckon_11 rfl rfl ?_
    refine wg_iload_n X 2 dX3_reckon_12 rfl rfl ?_
    obtain ⟨r4, h3, h⟩ := bd_some h
    refine wg_callVi (As := [.int x2]) (rest := [.int x4]) X (c_X6_end l E ad S hS C M p1 x2 hp1 h3) T_yX6_end k_625 cl6 hp1.1 dX3_reckon_13 rfl rfl (Nat.le_of_ble_eq_true rfl) ⟨Nat.le_of_ble_eq_true rfl, Nat.le_of_ble_eq_true rfl⟩ ⟨Nat.zero_le _, Nat.zero_le _⟩ ?_
    refine wg_icmp_ge X 201 dX3_reckon_16 (by decide) (fun c5 => ?_) (fun c5 => ?_)
    · have h := if_t c5 h
      exact Ke C x3 x4 (sm_inj h).symm
    · have h := if_f c5 h
      refine wg_aload_n X 1 dX3_reckon_19 rfl rfl ?_
      refine wg_getR (b := (p1 + 1)) X cl6 hp1.1 0 (by decide) dX3_reckon_20 k_456 rfl hp1.2.1 ?_
      refine wg_iload X 4 dX3_reckon_23 rfl ?_
      obtain ⟨z6, h⟩ := ck_some h
      refine wg_iald X hp1.2.2.1 rfl z6 dX3_reckon_25 ?_
      refine wg_bipush (v := 16) X dX3_reckon_26 (by decide) ?_
      refine wg_irem X dX3_reckon_28 (by decide) ?_
      obtain ⟨v7, e8, h⟩ := lt_some h
      refine wg_istore (lv' := [(5, .int v7), (0, .ref (ad 31)), (1, .ref (ad p1)), (2, .int x2), (3, .int x3), (4, .int x4)]) X dX3_reckon_29 e8 (by decide) rfl ?_
      refine wg_aload_n X 2 dX3_reckon_31 rfl rfl ?_
      refine wg_getR (b := (p1 + 1)) X cl6 hp1.1 0 (by decide) dX3_reckon_32 k_456 rfl hp1.2.1 ?_
      refine wg_iload X 5 dX3_reckon_35 rfl ?_
      obtain ⟨z9, h⟩ := ck_some h
      refine wg_iald X hp1.2.2.1 rfl z9 dX3_reckon_37 ?_
      refine wg_bipush (v := 16) X dX3_reckon_38 (by decide) ?_
      refine wg_idiv X dX3_reckon_40 (by decide) ?_
      obtain ⟨v10, e11, h⟩ := lt_some h
      refine wg_istore (lv' := [(6, .int v10), (5, .int v7), (0, .ref (ad 31)), (1, .ref (ad p1)), (2, .int x2), (3, .int x3), (4, .int x4)]) X dX3_reckon_41 e11 (by decide) rfl ?_
      refine wg_iload X 1 dX3_reckon_43 rfl ?_
      refine wg_if_eq X 54 dX3_reckon_45 (by decide) (fun c12 => ?_) (fun c12 => ?_)
      · have h := if_t c12 h
        refine wg_pick [2, 3, 4, 5, 6, 1, 0] (lv' := [(0, .ref (ad 31)), (1, .ref (ad p1)), (2, .int x2), (3, .int x3), (4, .int x4), (5, .int v7), (6, .int v10)]) rfl ?_
        exact J_X3_reckon_j54l9 X hr hS r0 D0 M N p1 hp1 C  x2 x3 x4 v7 v10  _ Kc Ke Kr h
      · have h := if_f c12 h
        refine wg_iload X 1 dX3_reckon_48 rfl ?_
        refine wg_iconst (v := 1) X dX3_reckon_50 (by decide) ?_
        refine wg_icmp_ne X 93 dX3_reckon_51 (by decide) (fun c31 => ?_) (fun c31 => ?_)
        · have h := if_f c31 h
          refine wg_iload X 1 dX3_reckon_93 rfl ?_
          refine wg_iconst (v := 2) X dX3_reckon_95 (by decide) ?_
          refine wg_icmp_eq X 105 dX3_reckon_96 (by decide) (fun c32 => ?_) (fun c32 => ?_)
          · have h := if_t c32 h
            refine wg_pick [2, 3, 4, 5, 6, 1] (lv' := [(0, .ref (ad 31)), (1, .ref (ad p1)), (2, .int x2), (3, .int x3), (4, .int x4), (5, .int v7)]) rfl ?_
            exact J_X3_reckon_j105l9 X hr hS r0 D0 M N p1 hp1 C  x2 x3 x4 v7  _ Kc Ke Kr h
          · have h := if_f c32 h
            refine wg_iload X 1 dX3_reckon_99 rfl ?_
            refine wg_iconst (v := 3) X dX3_reckon_101 (by decide) ?_
            refine wg_icmp_ne X 158 dX3_reckon_102 (by decide) (fun c58 => ?_) (fun c58 => ?_)
            · have h := if_f c58 h
              refine wg_iload_n X 5 dX3_reckon_158 rfl rfl ?_
              refine wg_iconst (v := 2) X dX3_reckon_159 (by decide) ?_
              refine wg_icmp_ge X 165 dX3_reckon_160 (by decide) (fun c59 => ?_) (fun c59 => ?_)
              · have h := if_t c59 h
                obtain ⟨v60, e61, h⟩ := lt_some h
                refine wg_iinc (lv' := [(3, .int v60), (6, .int v10), (5, .int v7), (0, .ref (ad 31)), (1, .ref (ad p1)), (2, .int x2), (4, .int x4)]) X 5 dX3_reckon_165 rfl e61 (by decide) rfl ?_
                refine wg_aload_n X 3 dX3_reckon_168 rfl rfl ?_
                refine wg_getR (b := 34) X cl3 (SCi hS 31 3 rfl) 3 (by decide) dX3_reckon_169 k_232 rfl (SCr hS 31 3 34 rfl) ?_
                refine wg_iload_n X 0 dX3_reckon_172 rfl rfl ?_
                refine wg_iconst (v := 1) X dX3_reckon_173 (by decide) ?_
                refine wg_isub X dX3_reckon_174 ?_
                refine wg_iload X 2 dX3_reckon_175 rfl ?_
                refine wg_aload_n X 3 dX3_reckon_177 rfl rfl ?_
                refine wg_getR (b := 34) X cl3 (SCi hS 31 3 rfl) 3 (by decide) dX3_reckon_178 k_232 rfl (SCr hS 31 3 34 rfl) ?_
                refine wg_iload_n X 0 dX3_reckon_181 rfl rfl ?_
                refine wg_iconst (v := 1) X dX3_reckon_182 (by decide) ?_
                refine wg_isub X dX3_reckon_183 ?_
                obtain ⟨z62, h⟩ := ck_some h
                refine wg_iald X (SCi hS 34 10 rfl) (SCl hS 34 160 rfl) z62 dX3_reckon_184 ?_
                refine wg_aload_n X 3 dX3_reckon_185 rfl rfl ?_
                refine wg_getR (b := 34) X cl3 (SCi hS 31 3 rfl) 3 (by decide) dX3_reckon_186 k_232 rfl (SCr hS 31 3 34 rfl) ?_
                refine wg_iload_n X 0 dX3_reckon_189 rfl rfl ?_
                obtain ⟨z63, h⟩ := ck_some h
                refine wg_iald X (SCi hS 34 10 rfl) (SCl hS 34 160 rfl) z63 dX3_reckon_190 ?_
                obtain ⟨r65, h64, h⟩ := bd_some h
                refine wg_callSi (As := [.int v7, .int (C 34 (v60 - (1 : Int32)).toNatClampNeg), .int (C 34 v60.toNatClampNeg)]) (rest := [.int (v60 - (1 : Int32)), .ref (ad 34)]) X (c_X3_joined l E ad S C M v7 (C 34 (v60 - (1 : Int32)).toNatClampNeg) (C 34 v60.toNatClampNeg)  h64) T_yX3_joined k_636 dX3_reckon_191 rfl rfl (Nat.le_of_ble_eq_true rfl) ⟨Nat.le_of_ble_eq_true rfl, Nat.le_of_ble_eq_true rfl⟩ ⟨Nat.zero_le _, Nat.zero_le _⟩ ?_
                obtain ⟨z66, h⟩ := ck_some h
                obtain ⟨C67, e68, h⟩ := lt_some h
                refine wg_iaste X (SCi hS 34 10 rfl) (SCl hS 34 160 rfl) z66 dX3_reckon_194 e68 ?_
                obtain ⟨v69, e70, h⟩ := lt_some h
                refine wg_iinc (lv' := [(4, .int v69), (3, .int v60), (6, .int v10), (5, .int v7), (0, .ref (ad 31)), (1, .ref (ad p1)), (2, .int x2)]) X 6 dX3_reckon_195 rfl e70 (by decide) rfl ?_
                refine wg_goto X 9 dX3_reckon_198 (by decide) ?_
                refine wg_pick [4, 5, 6, 1, 0] (lv' := [(0, .ref (ad 31)), (1, .ref (ad p1)), (2, .int x2), (3, .int v60), (4, .int v69)]) rfl ?_
                exact Kc C67 v60 v69 (sm_inj h).symm
              · have h := if_f c59 h
                refine wg_iconst (v := 0) X dX3_reckon_163 (by decide) ?_
                have hq := Kr _ (sm_inj h).symm
                exact wg_iret X ⟨(Prod.mk.inj hq).1, (Prod.mk.inj hq).2, rfl⟩ hr dX3_reckon_164
            · have h := if_t c58 h
              refine wg_pick [2, 3, 4, 5, 6, 1] (lv' := [(0, .ref (ad 31)), (1, .ref (ad p1)), (2, .int x2), (3, .int x3), (4, .int x4), (5, .int v7)]) rfl ?_
              exact J_X3_reckon_j105l9 X hr hS r0 D0 M N p1 hp1 C  x2 x3 x4 v7  _ Kc Ke Kr h
        · have h := if_t c31 h
          refine wg_pick [2, 3, 4, 5, 6, 1, 0] (lv' := [(0, .ref (ad 31)), (1, .ref (ad p1)), (2, .int x2), (3, .int x3), (4, .int x4), (5, .int v7), (6, .int v10)]) rfl ?_
          exact J_X3_reckon_j54l9 X hr hS r0 D0 M N p1 hp1 C  x2 x3 x4 v7 v10  _ Kc Ke Kr h
set_option maxHeartbeats 4000000 in
set_option maxRecDepth 100000 in
theorem c_X3_reckon (l : Launch) (E : wg_Ev) (ad : Nat → Nat) (S : wg_Sh) (hS : wg_SC S) (N : Nat) (C : wg_C) (M : wg_M) (p1 : Nat) (p2 : Int32) (hp1 : wg_Txt S p1) {r0 : Int32} {D0 : wg_C} (h : f_X3_reckon N S C p1 p2 = some (r0, D0)) : wg_Ci l yX3_reckon cX3_reckon 8 (some .int) 2 42 E ad S C M [.ref (ad 31), .ref (ad p1), .int p2] r0 D0 M := by
  refine wg_start (own := RX3) (by decide +kernel) rfl (Nat.le_of_ble_eq_true rfl) ?_
  intro p e s m below meth c X hr hnm
  refine wg_lv (lv' := [(0, .ref (ad 31)), (1, .ref (ad p1)), (2, .int p2)]) rfl ?_
  unfold f_X3_reckon at h
  refine wg_iconst (v := 0) X dX3_reckon_0 (by decide) ?_
  refine wg_istore_n (lv' := [(3, .int (0 : Int32)), (0, .ref (ad 31)), (1, .ref (ad p1)), (2, .int p2)]) X dX3_reckon_1 rfl rfl (by decide) rfl ?_
  refine wg_aload_n X 2 dX3_reckon_2 rfl rfl ?_
  refine wg_iload_n X 3 dX3_reckon_3 rfl rfl ?_
  obtain ⟨r2, h1, h⟩ := bd_some h
  refine wg_callVi (As := [.int p2]) (rest := []) X (c_X6_start l E ad S hS C M p1 p2 hp1 h1) T_yX6_start k_621 cl6 hp1.1 dX3_reckon_4 rfl rfl (Nat.le_of_ble_eq_true rfl) ⟨Nat.le_of_ble_eq_true rfl, Nat.le_of_ble_eq_true rfl⟩ ⟨Nat.zero_le _, Nat.zero_le _⟩ ?_
  refine wg_istore (lv' := [(4, .int r2), (3, .int (0 : Int32)), (0, .ref (ad 31)), (1, .ref (ad p1)), (2, .int p2)]) X dX3_reckon_7 rfl (by decide) rfl ?_
  obtain ⟨o74, h75, h⟩ := bs3_o h
  refine wg_pick [2, 3, 4, 1, 0] (lv' := [(0, .ref (ad 31)), (1, .ref (ad p1)), (2, .int p2), (3, .int (0 : Int32)), (4, .int r2)]) rfl ?_
  refine L_X3_reckon_l9 X hr hS r0 D0 M N p1 hp1  p2  N C (0 : Int32) r2 o74 h75 (fun C71 v72 v73 e77 => ?_) (fun q76 e77 => ?_)
  · subst o74
    replace h := bs3_in h
    refine wg_iload_n X 3 dX3_reckon_201 rfl rfl ?_
    refine wg_if_le X 216 dX3_reckon_202 (by decide) (fun c78 => ?_) (fun c78 => ?_)
    · have h := if_t c78 h
      refine wg_iconst (v := 0) X dX3_reckon_216 (by decide) ?_
      exact wg_iret X ⟨(Prod.mk.inj (sm_inj h)).1, (Prod.mk.inj (sm_inj h)).2, rfl⟩ hr dX3_reckon_217
    · have h := if_f c78 h
      refine wg_aload_n X 0 dX3_reckon_205 rfl rfl ?_
      refine wg_getR (b := 34) X cl3 (SCi hS 31 3 rfl) 3 (by decide) dX3_reckon_206 k_232 rfl (SCr hS 31 3 34 rfl) ?_
      refine wg_iload_n X 3 dX3_reckon_209 rfl rfl ?_
      refine wg_iconst (v := 1) X dX3_reckon_210 (by decide) ?_
      refine wg_isub X dX3_reckon_211 ?_
      obtain ⟨z79, h⟩ := ck_some h
      refine wg_iald X (SCi hS 34 10 rfl) (SCl hS 34 160 rfl) z79 dX3_reckon_212 ?_
      refine wg_goto X 217 dX3_reckon_213 (by decide) ?_
      exact wg_iret X ⟨(Prod.mk.inj (sm_inj h)).1, (Prod.mk.inj (sm_inj h)).2, rfl⟩ hr dX3_reckon_217
  · subst o74
    replace h := bs3_r h
    exact sm_inj h
-- java/lang/Math.min(II)I ('i', 'i')
def f_J9_min_7cf53 (p0 : Int32) (p1 : Int32) : Option Int32 :=
  if p1 < p0 then (
    some p1)
  else (
    some p0)
set_option maxHeartbeats 4000000 in
set_option maxRecDepth 100000 in
theorem c_J9_min_7cf53 (l : Launch) (E : wg_Ev) (ad : Nat → Nat) (S : wg_Sh) (C : wg_C) (M : wg_M) (p0 : Int32) (p1 : Int32)  {r0 : Int32} (h : f_J9_min_7cf53 p0 p1 = some r0) : wg_Ci l yJ9_min_7cf53 cJ9_min_7cf53 2 (some .int) 0 0 E ad S C M [.int p0, .int p1] r0 C M := by
  refine wg_start (own := RJ9) (by decide +kernel) rfl (Nat.le_of_ble_eq_true rfl) ?_
  intro p e s m below meth c X hr hnm
  refine wg_lv (lv' := [(0, .int p0), (1, .int p1)]) rfl ?_
  unfold f_J9_min_7cf53 at h
  refine wg_iload_n X 0 dJ9_min_7cf53_0 rfl rfl ?_
  refine wg_iload_n X 1 dJ9_min_7cf53_1 rfl rfl ?_
  refine wg_icmp_gt X 9 dJ9_min_7cf53_2 (by decide) (fun c1 => ?_) (fun c1 => ?_)
  · have h := if_t c1 h
    refine wg_iload_n X 1 dJ9_min_7cf53_9 rfl rfl ?_
    exact wg_iret X ⟨(sm_inj h), rfl, rfl⟩ hr dJ9_min_7cf53_10
  · have h := if_f c1 h
    refine wg_iload_n X 0 dJ9_min_7cf53_5 rfl rfl ?_
    refine wg_goto X 10 dJ9_min_7cf53_6 (by decide) ?_
    exact wg_iret X ⟨(sm_inj h), rfl, rfl⟩ hr dJ9_min_7cf53_10
-- java/lang/Math.max(II)I ('i', 'i')
def f_J9_max_7cf53 (p0 : Int32) (p1 : Int32) : Option Int32 :=
  if p0 < p1 then (
    some p1)
  else (
    some p0)
set_option maxHeartbeats 4000000 in
set_option maxRecDepth 100000 in
theorem c_J9_max_7cf53 (l : Launch) (E : wg_Ev) (ad : Nat → Nat) (S : wg_Sh) (C : wg_C) (M : wg_M) (p0 : Int32) (p1 : Int32)  {r0 : Int32} (h : f_J9_max_7cf53 p0 p1 = some r0) : wg_Ci l yJ9_max_7cf53 cJ9_max_7cf53 2 (some .int) 0 0 E ad S C M [.int p0, .int p1] r0 C M := by
  refine wg_start (own := RJ9) (by decide +kernel) rfl (Nat.le_of_ble_eq_true rfl) ?_
  intro p e s m below meth c X hr hnm
  refine wg_lv (lv' := [(0, .int p0), (1, .int p1)]) rfl ?_
  unfold f_J9_max_7cf53 at h
  refine wg_iload_n X 0 dJ9_max_7cf53_0 rfl rfl ?_
  refine wg_iload_n X 1 dJ9_max_7cf53_1 rfl rfl ?_
  refine wg_icmp_lt X 9 dJ9_max_7cf53_2 (by decide) (fun c1 => ?_) (fun c1 => ?_)
  · have h := if_t c1 h
    refine wg_iload_n X 1 dJ9_max_7cf53_9 rfl rfl ?_
    exact wg_iret X ⟨(sm_inj h), rfl, rfl⟩ hr dJ9_max_7cf53_10
  · have h := if_f c1 h
    refine wg_iload_n X 0 dJ9_max_7cf53_5 rfl rfl ?_
    refine wg_goto X 10 dJ9_max_7cf53_6 (by decide) ?_
    exact wg_iret X ⟨(sm_inj h), rfl, rfl⟩ hr dJ9_max_7cf53_10
-- WindowsGive$Rules.worth(IILWindowsGive$Pane;I[I)I (('c', 31), 'i', 'i', 'P', 'i', 'IA')
def f_X3_worth_j111 (N : Nat) (S : wg_Sh) (p3 : Nat) (p5 n5 : Nat) (C : wg_C)  (x1 : Int32) (x2 : Int32) (s0 : Int32) : Option (Int32 × wg_C) :=
  ck (inb x1 6) <|
  bd (S.1 32 x1.toNatClampNeg) fun t31 =>
  bd2 (f_X3_reckon N S C t31 x2) fun r34 C35 =>
  bd (f_J9_min_7cf53 (99 : Int32) r34) fun r37 =>
  bd (f_J9_max_7cf53 s0 r37) fun r39 =>
  some (r39, C35)
def f_X3_worth_j81 (N : Nat) (S : wg_Sh) (p3 : Nat) (p5 n5 : Nat) (C : wg_C)  (x1 : Int32) (x2 : Int32) (s0 : Int32) (s1 : Int32) : Option (Int32 × wg_C) :=
  ck (inb s1 6) <|
  lt_ (wg_up C 33 s1.toNatClampNeg s0) fun C21 =>
  ck (inb (4 : Int32) 6) <|
  lt_ (wg_up C21 33 (4 : Int32).toNatClampNeg (C21 p3 0)) fun C24 =>
  ck (inb (5 : Int32) 6) <|
  lt_ (wg_up C24 33 (5 : Int32).toNatClampNeg (C24 p3 4)) fun C27 =>
  if x2 = 0 then (
    f_X3_worth_j111 N S p3 p5 n5 C27  x1 x2 (1 : Int32))
  else (
    f_X3_worth_j111 N S p3 p5 n5 C27  x1 x2 (0 : Int32))
def f_X3_worth (N : Nat) (S : wg_Sh) (C : wg_C) (p1 : Int32) (p2 : Int32) (p3 : Nat) (p4 : Int32) (p5 n5 : Nat) : Option (Int32 × wg_C) :=
  if p1 < 0 then (
    some ((0 : Int32), C))
  else (
    if (C 31 1) ≤ p1 then (
      some ((0 : Int32), C))
    else (
      ck (inb p1 6) <|
      oq (S.1 32 p1.toNatClampNeg) (
        some ((0 : Int32), C))
        (fun t4 =>
        bd (f_X1_on C p3 p4) fun r7 =>
        ck (inb (0 : Int32) 6) <|
        lt_ (wg_up C 33 (0 : Int32).toNatClampNeg p4) fun C9 =>
        ck (inb (1 : Int32) 6) <|
        lt_ (wg_up C9 33 (1 : Int32).toNatClampNeg (C9 p3 3)) fun C12 =>
        ck (inb (2 : Int32) 6) <|
        lt_ (wg_up C12 33 (2 : Int32).toNatClampNeg (C12 p3 2)) fun C15 =>
        bd (f_X8_isDay r7) fun r18 =>
        if r18 = 0 then (
          f_X3_worth_j81 N S p3 p5 n5 C15  p1 p2 (0 : Int32) (3 : Int32))
        else (
          ck (inb r7 n5) <|
          f_X3_worth_j81 N S p3 p5 n5 C15  p1 p2 (C15 p5 r7.toNatClampNeg) (3 : Int32)))))
abbrev G_X3_worth (p : Program) (l : Launch) (e : Env) (s : State) (m : MethodId) (args : Array Value) (below : List Frame) (meth : Method) (c : Code) (E : wg_Ev) (ad : Nat → Nat) (S : wg_Sh) (r0 : Int32) (C0 : wg_C) (M0 : wg_M) (pc : Nat) (C : wg_C) (M : wg_M) (lv : List (Nat × Value)) (st : List Value) : Prop := wg_G p l e (wg_Rm 3 69) s m args below meth c (MQ below (wg_Qi E ad S r0 C0 M0) args s 0 0 (wg_A E)) 8 E ad S 0 0 pc C M lv st
set_option maxHeartbeats 4000000 in
set_option maxRecDepth 100000 in
theorem J_X3_worth_j111 {p : Program} {l : Launch} {e : Env} {s : State} {m : MethodId} {args : Array Value} {below : List Frame} {meth : Method} {c : Code} {E : wg_Ev} {ad : Nat → Nat} {S : wg_Sh} (X : wg_X p s m args meth c cX3_worth 8 RX3 E) (hr : meth.sig.returnType = (some .int)) (hS : wg_SC S) (r0 : Int32) (D0 : wg_C) (M : wg_M) (N : Nat) (p3 : Nat) (hp3 : wg_id S p3 1) (p5 n5 : Nat) (hp5 : wg_IA S p5 n5) (C : wg_C)  (x1 : Int32) (x2 : Int32) (s0 : Int32)   (h : f_X3_worth_j111 N S p3 p5 n5 C  x1 x2 s0 = some (r0, D0)) : G_X3_worth p l e s m args below meth c E ad S r0 D0 M 111 C M [(0, .ref (ad 31)), (1, .int x1), (2, .int x2)] [.int s0] := by
  unfold f_X3_worth_j111 at h
  refine wg_istore (lv' := [(7, .int s0), (0, .ref (ad 31)), (1, .int x1), (2, .int x2)]) X dX3_worth_111 rfl (by decide) rfl ?_
  refine wg_iload X 0 dX3_worth_113 rfl ?_
  refine wg_bipush (v := 99) X dX3_worth_115 (by decide) ?_
  refine wg_aload_n X 1 dX3_worth_117 rfl rfl ?_
  refine wg_aload_n X 1 dX3_worth_118 rfl rfl ?_
  refine wg_getR (b := 32) X cl3 (SCi hS 31 3 rfl) 0 (by decide) dX3_worth_119 k_228 rfl (SCr hS 31 0 32 rfl) ?_
  refine wg_iload_n X 2 dX3_worth_122 rfl rfl ?_
  obtain ⟨z30, h⟩ := ck_some h
  refine wg_aald15 X (SCi hS 32 15 rfl) (SCl hS 32 6 rfl) z30 dX3_worth_123 ?_
  obtain ⟨t31, h32, h⟩ := bd_some h
  refine wg_some h32 ?_
  refine wg_iload_n X 3 dX3_worth_124 rfl rfl ?_
  obtain ⟨r34, C35, h33, h⟩ := bd2_some h
  refine wg_callVi (As := [.ref (ad t31), .int x2]) (rest := [.int (99 : Int32), .int s0]) X (c_X3_reckon l E ad S hS N C M t31 x2 (hS.2.2 _ t31 (inb_lt z30) h32) h33) T_yX3_reckon k_617 cl3 (SCi hS 31 3 rfl) dX3_worth_125 rfl rfl (Nat.le_of_ble_eq_true rfl) ⟨Nat.le_of_ble_eq_true rfl, Nat.le_of_ble_eq_true rfl⟩ ⟨Nat.zero_le _, Nat.zero_le _⟩ ?_
  obtain ⟨r37, h36, h⟩ := bd_some h
  refine wg_callSi (As := [.int (99 : Int32), .int r34]) (rest := [.int s0]) X (c_J9_min_7cf53 l E ad S C35 M (99 : Int32) r34  h36) T_yJ9_min_7cf53 k_639 dX3_worth_128 rfl rfl (Nat.le_of_ble_eq_true rfl) ⟨Nat.le_of_ble_eq_true rfl, Nat.le_of_ble_eq_true rfl⟩ ⟨Nat.zero_le _, Nat.zero_le _⟩ ?_
  obtain ⟨r39, h38, h⟩ := bd_some h
  refine wg_callSi (As := [.int s0, .int r37]) (rest := []) X (c_J9_max_7cf53 l E ad S C35 M s0 r37  h38) T_yJ9_max_7cf53 k_640 dX3_worth_131 rfl rfl (Nat.le_of_ble_eq_true rfl) ⟨Nat.le_of_ble_eq_true rfl, Nat.le_of_ble_eq_true rfl⟩ ⟨Nat.zero_le _, Nat.zero_le _⟩ ?_
  exact wg_iret X ⟨(Prod.mk.inj (sm_inj h)).1, (Prod.mk.inj (sm_inj h)).2, rfl⟩ hr dX3_worth_134
set_option maxHeartbeats 4000000 in
set_option maxRecDepth 100000 in
theorem J_X3_worth_j81 {p : Program} {l : Launch} {e : Env} {s : State} {m : MethodId} {args : Array Value} {below : List Frame} {meth : Method} {c : Code} {E : wg_Ev} {ad : Nat → Nat} {S : wg_Sh} (X : wg_X p s m args meth c cX3_worth 8 RX3 E) (hr : meth.sig.returnType = (some .int)) (hS : wg_SC S) (r0 : Int32) (D0 : wg_C) (M : wg_M) (N : Nat) (p3 : Nat) (hp3 : wg_id S p3 1) (p5 n5 : Nat) (hp5 : wg_IA S p5 n5) (C : wg_C)  (x1 : Int32) (x2 : Int32) (s0 : Int32) (s1 : Int32)   (h : f_X3_worth_j81 N S p3 p5 n5 C  x1 x2 s0 s1 = some (r0, D0)) : G_X3_worth p l e s m args below meth c E ad S r0 D0 M 81 C M [(0, .ref (ad 31)), (1, .int x1), (2, .int x2), (3, .ref (ad p3))] [.int s0, .int s1, .ref (ad 33)] := by
  unfold f_X3_worth_j81 at h
  obtain ⟨z20, h⟩ := ck_some h
  obtain ⟨C21, e22, h⟩ := lt_some h
  refine wg_iaste X (SCi hS 33 10 rfl) (SCl hS 33 6 rfl) z20 dX3_worth_81 e22 ?_
  refine wg_aload_n X 0 dX3_worth_82 rfl rfl ?_
  refine wg_getR (b := 33) X cl3 (SCi hS 31 3 rfl) 2 (by decide) dX3_worth_83 k_231 rfl (SCr hS 31 2 33 rfl) ?_
  refine wg_iconst (v := 4) X dX3_worth_86 (by decide) ?_
  refine wg_aload_n X 3 dX3_worth_87 rfl rfl ?_
  refine wg_getC X cl1 hp3 0 (by decide) dX3_worth_88 k_110 rfl ?_
  obtain ⟨z23, h⟩ := ck_some h
  obtain ⟨C24, e25, h⟩ := lt_some h
  refine wg_iaste X (SCi hS 33 10 rfl) (SCl hS 33 6 rfl) z23 dX3_worth_91 e25 ?_
  refine wg_aload_n X 0 dX3_worth_92 rfl rfl ?_
  refine wg_getR (b := 33) X cl3 (SCi hS 31 3 rfl) 2 (by decide) dX3_worth_93 k_231 rfl (SCr hS 31 2 33 rfl) ?_
  refine wg_iconst (v := 5) X dX3_worth_96 (by decide) ?_
  refine wg_aload_n X 3 dX3_worth_97 rfl rfl ?_
  refine wg_getC X cl1 hp3 4 (by decide) dX3_worth_98 k_121 rfl ?_
  obtain ⟨z26, h⟩ := ck_some h
  obtain ⟨C27, e28, h⟩ := lt_some h
  refine wg_iaste X (SCi hS 33 10 rfl) (SCl hS 33 6 rfl) z26 dX3_worth_101 e28 ?_
  refine wg_iload_n X 2 dX3_worth_102 rfl rfl ?_
  refine wg_if_ne X 110 dX3_worth_103 (by decide) (fun c29 => ?_) (fun c29 => ?_)
  · have h := if_f c29 h
    refine wg_iconst (v := 0) X dX3_worth_110 (by decide) ?_
    refine wg_pick [0, 1, 2] (lv' := [(0, .ref (ad 31)), (1, .int x1), (2, .int x2)]) rfl ?_
    exact J_X3_worth_j111 X hr hS r0 D0 M N p3 hp3 p5 n5 hp5 C27  x1 x2 (0 : Int32)   h
  · have h := if_t c29 h
    refine wg_iconst (v := 1) X dX3_worth_106 (by decide) ?_
    refine wg_goto X 111 dX3_worth_107 (by decide) ?_
    refine wg_pick [0, 1, 2] (lv' := [(0, .ref (ad 31)), (1, .int x1), (2, .int x2)]) rfl ?_
    exact J_X3_worth_j111 X hr hS r0 D0 M N p3 hp3 p5 n5 hp5 C27  x1 x2 (1 : Int32)   h
set_option maxHeartbeats 4000000 in
set_option maxRecDepth 100000 in
theorem c_X3_worth (l : Launch) (E : wg_Ev) (ad : Nat → Nat) (S : wg_Sh) (hS : wg_SC S) (N : Nat) (C : wg_C) (M : wg_M) (p1 : Int32) (p2 : Int32) (p3 : Nat) (p4 : Int32) (p5 n5 : Nat) (hp3 : wg_id S p3 1) (hp5 : wg_IA S p5 n5) {r0 : Int32} {D0 : wg_C} (h : f_X3_worth N S C p1 p2 p3 p4 p5 n5 = some (r0, D0)) : wg_Ci l yX3_worth cX3_worth 8 (some .int) 3 69 E ad S C M [.ref (ad 31), .int p1, .int p2, .ref (ad p3), .int p4, .ref (ad p5)] r0 D0 M := by
  refine wg_start (own := RX3) (by decide +kernel) rfl (Nat.le_of_ble_eq_true rfl) ?_
  intro p e s m below meth c X hr hnm
  refine wg_lv (lv' := [(0, .ref (ad 31)), (1, .int p1), (2, .int p2), (3, .ref (ad p3)), (4, .int p4), (5, .ref (ad p5))]) rfl ?_
  unfold f_X3_worth at h
  refine wg_iload_n X 1 dX3_worth_0 rfl rfl ?_
  refine wg_if_lt X 21 dX3_worth_1 (by decide) (fun c1 => ?_) (fun c1 => ?_)
  · have h := if_t c1 h
    refine wg_iconst (v := 0) X dX3_worth_21 (by decide) ?_
    exact wg_iret X ⟨(Prod.mk.inj (sm_inj h)).1, (Prod.mk.inj (sm_inj h)).2, rfl⟩ hr dX3_worth_22
  · have h := if_f c1 h
    refine wg_iload_n X 1 dX3_worth_4 rfl rfl ?_
    refine wg_aload_n X 0 dX3_worth_5 rfl rfl ?_
    refine wg_getC X cl3 (SCi hS 31 3 rfl) 1 (by decide) dX3_worth_6 k_229 rfl ?_
    refine wg_icmp_ge X 21 dX3_worth_9 (by decide) (fun c2 => ?_) (fun c2 => ?_)
    · have h := if_t c2 h
      refine wg_iconst (v := 0) X dX3_worth_21 (by decide) ?_
      exact wg_iret X ⟨(Prod.mk.inj (sm_inj h)).1, (Prod.mk.inj (sm_inj h)).2, rfl⟩ hr dX3_worth_22
    · have h := if_f c2 h
      refine wg_aload_n X 0 dX3_worth_12 rfl rfl ?_
      refine wg_getR (b := 32) X cl3 (SCi hS 31 3 rfl) 0 (by decide) dX3_worth_13 k_228 rfl (SCr hS 31 0 32 rfl) ?_
      refine wg_iload_n X 1 dX3_worth_16 rfl rfl ?_
      obtain ⟨z3, h⟩ := ck_some h
      refine wg_aald15 X (SCi hS 32 15 rfl) (SCl hS 32 6 rfl) z3 dX3_worth_17 ?_
      refine wg_nonnullQ X 23 dX3_worth_18 (by decide) (fun c5 => ?_) (fun t4 c5 => ?_)
      · have h := oq_n c5 h
        refine wg_iconst (v := 0) X dX3_worth_21 (by decide) ?_
        exact wg_iret X ⟨(Prod.mk.inj (sm_inj h)).1, (Prod.mk.inj (sm_inj h)).2, rfl⟩ hr dX3_worth_22
      · have h := oq_s c5 h
        refine wg_aload_n X 3 dX3_worth_23 rfl rfl ?_
        refine wg_iload X 4 dX3_worth_24 rfl ?_
        obtain ⟨r7, h6, h⟩ := bd_some h
        refine wg_callVi (As := [.int p4]) (rest := []) X (c_X1_on l E ad S hS C M p3 p4 hp3 h6) T_yX1_on k_615 cl1 hp3 dX3_worth_26 rfl rfl (Nat.le_of_ble_eq_true rfl) ⟨Nat.le_of_ble_eq_true rfl, Nat.le_of_ble_eq_true rfl⟩ ⟨Nat.zero_le _, Nat.zero_le _⟩ ?_
        refine wg_istore (lv' := [(6, .int r7), (0, .ref (ad 31)), (1, .int p1), (2, .int p2), (3, .ref (ad p3)), (4, .int p4), (5, .ref (ad p5))]) X dX3_worth_29 rfl (by decide) rfl ?_
        refine wg_aload_n X 1 dX3_worth_31 rfl rfl ?_
        refine wg_getR (b := 33) X cl3 (SCi hS 31 3 rfl) 2 (by decide) dX3_worth_32 k_231 rfl (SCr hS 31 2 33 rfl) ?_
        refine wg_iconst (v := 0) X dX3_worth_35 (by decide) ?_
        refine wg_iload X 5 dX3_worth_36 rfl ?_
        obtain ⟨z8, h⟩ := ck_some h
        obtain ⟨C9, e10, h⟩ := lt_some h
        refine wg_iaste X (SCi hS 33 10 rfl) (SCl hS 33 6 rfl) z8 dX3_worth_38 e10 ?_
        refine wg_aload_n X 1 dX3_worth_39 rfl rfl ?_
        refine wg_getR (b := 33) X cl3 (SCi hS 31 3 rfl) 2 (by decide) dX3_worth_40 k_231 rfl (SCr hS 31 2 33 rfl) ?_
        refine wg_iconst (v := 1) X dX3_worth_43 (by decide) ?_
        refine wg_aload_n X 4 dX3_worth_44 rfl rfl ?_
        refine wg_getC X cl1 hp3 3 (by decide) dX3_worth_45 k_118 rfl ?_
        obtain ⟨z11, h⟩ := ck_some h
        obtain ⟨C12, e13, h⟩ := lt_some h
        refine wg_iaste X (SCi hS 33 10 rfl) (SCl hS 33 6 rfl) z11 dX3_worth_48 e13 ?_
        refine wg_aload_n X 1 dX3_worth_49 rfl rfl ?_
        refine wg_getR (b := 33) X cl3 (SCi hS 31 3 rfl) 2 (by decide) dX3_worth_50 k_231 rfl (SCr hS 31 2 33 rfl) ?_
        refine wg_iconst (v := 2) X dX3_worth_53 (by decide) ?_
        refine wg_aload_n X 4 dX3_worth_54 rfl rfl ?_
        refine wg_getC X cl1 hp3 2 (by decide) dX3_worth_55 k_115 rfl ?_
        obtain ⟨z14, h⟩ := ck_some h
        obtain ⟨C15, e16, h⟩ := lt_some h
        refine wg_iaste X (SCi hS 33 10 rfl) (SCl hS 33 6 rfl) z14 dX3_worth_58 e16 ?_
        refine wg_aload_n X 1 dX3_worth_59 rfl rfl ?_
        refine wg_getR (b := 33) X cl3 (SCi hS 31 3 rfl) 2 (by decide) dX3_worth_60 k_231 rfl (SCr hS 31 2 33 rfl) ?_
        refine wg_iconst (v := 3) X dX3_worth_63 (by decide) ?_
        refine wg_iload X 0 dX3_worth_64 rfl ?_
        obtain ⟨r18, h17, h⟩ := bd_some h
        refine wg_callNi (host := "WindowsGive") (As := [.int r7]) (rest := [.int (3 : Int32), .ref (ad 33)]) X (c_X8_isDay l E ad S C15 M r7  h17) T_yX8_isDay (by simp [wg_nest]) dX3_worth_66 rfl rfl (Nat.le_of_ble_eq_true rfl) ⟨Nat.le_of_ble_eq_true rfl, Nat.le_of_ble_eq_true rfl⟩ ⟨Nat.zero_le _, Nat.zero_le _⟩ ?_
        refine wg_if_eq X 80 dX3_worth_69 (by decide) (fun c19 => ?_) (fun c19 => ?_)
        · have h := if_t c19 h
          refine wg_iconst (v := 0) X dX3_worth_80 (by decide) ?_
          refine wg_pick [1, 2, 3, 4] (lv' := [(0, .ref (ad 31)), (1, .int p1), (2, .int p2), (3, .ref (ad p3))]) rfl ?_
          exact J_X3_worth_j81 X hr hS r0 D0 M N p3 hp3 p5 n5 hp5 C15  p1 p2 (0 : Int32) (3 : Int32)   h
        · have h := if_f c19 h
          refine wg_aload X 6 dX3_worth_72 rfl ?_
          refine wg_iload X 0 dX3_worth_74 rfl ?_
          obtain ⟨z40, h⟩ := ck_some h
          refine wg_iald X hp5.1 hp5.2 z40 dX3_worth_76 ?_
          refine wg_goto X 81 dX3_worth_77 (by decide) ?_
          refine wg_pick [1, 2, 3, 4] (lv' := [(0, .ref (ad 31)), (1, .int p1), (2, .int p2), (3, .ref (ad p3))]) rfl ?_
          exact J_X3_worth_j81 X hr hS r0 D0 M N p3 hp3 p5 n5 hp5 C15  p1 p2 (C15 p5 r7.toNatClampNeg) (3 : Int32)   h
-- WindowsGive$Walk.leave(LWindowsGive$House;LWindowsGive$Rules;II)V (('c', 35), ('c', 1), ('c', 31), 'i', 'i')
def f_X7_leave_i1_j106l39 (N : Nat) (S : wg_Sh) (C : wg_C)  (x3 : Int32) (x4 : Int32) (x5 : Int32) (x6 : Int32) (x7 : Int32) (x8 : Nat) (s0 : Int32) : Option ((wg_C × Int32) ⊕ (wg_C × Int32)) :=
  bd (f_X1_leads C x8) fun r20 =>
  bd (f_X1_on C x8 x6) fun r22 =>
  ck (inb x3 192) <|
  bd (f_X7_shorten C ((r20 * (32 : Int32)) + r22) ((C 37 x3.toNatClampNeg) + s0)) fun C25 =>
  lt_ (x7 + (1 : Int32)) fun v26 =>
  some (.inl (C25, v26))
def f_X7_leave_i1_l39 (N : Nat) (S : wg_Sh)  (x3 : Int32) (x4 : Int32) (x5 : Int32) (x6 : Int32) (C : wg_C) (x7 : Int32) : Option ((wg_C × Int32) ⊕ (wg_C × Int32)) :=
  if (C 1 2) ≤ x7 then (
    some (.inr (C, x7)))
  else (
    ck (inb x7 8) <|
    if (C (4 + x7.toNatClampNeg) 4) = x5 then (
      bd (f_X1_passes C (4 + x7.toNatClampNeg) x6 x4) fun r12 =>
      if r12 = 0 then (
        lt_ (x7 + (1 : Int32)) fun v14 =>
        some (.inl (C, v14)))
      else (
        bd2 (f_X3_worth N S C (C 1 3) (0 : Int32) (4 + x7.toNatClampNeg) x6 2 32) fun r17 C18 =>
        f_X7_leave_i1_j106l39 N S C18  x3 x4 x5 x6 x7 (4 + x7.toNatClampNeg) r17))
    else (
      lt_ (x7 + (1 : Int32)) fun v9 =>
      some (.inl (C, v9))))
def f_X7_leave_i1_j36 (N : Nat) (S : wg_Sh) (C : wg_C)  (x3 : Int32) (x4 : Int32) (x5 : Int32) (x6 : Int32) : Option wg_C :=
  bd2 (lp (fun o => f_X7_leave_i1_l39 N S  x3 x4 x5 x6 o.1 o.2) N (C, (0 : Int32))) fun C28 v29 =>
  some C28
def f_X7_leave_i1 (N : Nat) (S : wg_Sh) (C : wg_C) (p3 : Int32) (p4 : Int32) : Option wg_C :=
  lt_ (p3 / (32 : Int32)) fun v1 =>
  lt_ (p3 - p3 / (32 : Int32) * (32 : Int32)) fun v3 =>
  if (32 : Int32) ≤ (v3 + (1 : Int32)) then (
    f_X7_leave_i1_j36 N S C  p3 p4 v1 v3)
  else (
    ck (inb p3 192) <|
    bd (f_X7_shorten C (p3 + (1 : Int32)) ((C 37 p3.toNatClampNeg) + (1 : Int32))) fun C36 =>
    f_X7_leave_i1_j36 N S C36  p3 p4 v1 v3)
abbrev G_X7_leave_i1 (p : Program) (l : Launch) (e : Env) (s : State) (m : MethodId) (args : Array Value) (below : List Frame) (meth : Method) (c : Code) (E : wg_Ev) (ad : Nat → Nat) (S : wg_Sh) (C0 : wg_C) (M0 : wg_M) (pc : Nat) (C : wg_C) (M : wg_M) (lv : List (Nat × Value)) (st : List Value) : Prop := wg_G p l e (wg_Rm 4 96) s m args below meth c (MQ below (wg_Qv E ad S C0 M0) args s 0 0 (wg_A E)) 10 E ad S 0 0 pc C M lv st
set_option maxHeartbeats 4000000 in
set_option maxRecDepth 100000 in
theorem J_X7_leave_i1_j106l39 {p : Program} {l : Launch} {e : Env} {s : State} {m : MethodId} {args : Array Value} {below : List Frame} {meth : Method} {c : Code} {E : wg_Ev} {ad : Nat → Nat} {S : wg_Sh} (X : wg_X p s m args meth c cX7_leave 10 RX7 E) (hr : meth.sig.returnType = none) (hS : wg_SC S) (D0 : wg_C) (M : wg_M) (N : Nat)  (C : wg_C)  (x3 : Int32) (x4 : Int32) (x5 : Int32) (x6 : Int32) (x7 : Int32) (x8 : Nat) (s0 : Int32) (hx8 : wg_id S x8 1) (y : ((wg_C × Int32) ⊕ (wg_C × Int32))) (Kc : ∀ (Dy : wg_C) (y7 : Int32), y = Sum.inl (Dy, y7) → G_X7_leave_i1 p l e s m args below meth c E ad S D0 M 39 Dy M [(0, .ref (ad 35)), (1, .ref (ad 1)), (2, .ref (ad 31)), (3, .int x3), (4, .int x4), (5, .int x5), (6, .int x6), (7, .int y7)] []) (Ke : ∀ (Dy : wg_C) (y7 : Int32), y = Sum.inr ((Dy, y7)) → G_X7_leave_i1 p l e s m args below meth c E ad S D0 M 143 Dy M [(0, .ref (ad 35)), (1, .ref (ad 1)), (2, .ref (ad 31)), (3, .int x3), (4, .int x4), (5, .int x5), (6, .int x6), (7, .int y7)] []) (h : f_X7_leave_i1_j106l39 N S C  x3 x4 x5 x6 x7 x8 s0 = some y) : G_X7_leave_i1 p l e s m args below meth c E ad S D0 M 106 C M [(0, .ref (ad 35)), (1, .ref (ad 1)), (2, .ref (ad 31)), (3, .int x3), (4, .int x4), (5, .int x5), (6, .int x6), (7, .int x7), (8, .ref (ad x8))] [.int s0] := by
  unfold f_X7_leave_i1_j106l39 at h
  refine wg_istore (lv' := [(9, .int s0), (0, .ref (ad 35)), (1, .ref (ad 1)), (2, .ref (ad 31)), (3, .int x3), (4, .int x4), (5, .int x5), (6, .int x6), (7, .int x7), (8, .ref (ad x8))]) X dX7_leave_106 rfl (by decide) rfl ?_
  refine wg_aload_n X 1 dX7_leave_108 rfl rfl ?_
  refine wg_aload X 9 dX7_leave_109 rfl ?_
  obtain ⟨r20, h19, h⟩ := bd_some h
  refine wg_callVi (As := []) (rest := [.ref (ad 35)]) X (c_X1_leads l E ad S hS C M x8 hx8 h19) T_yX1_leads k_643 cl1 hx8 dX7_leave_111 rfl rfl (Nat.le_of_ble_eq_true rfl) ⟨Nat.le_of_ble_eq_true rfl, Nat.le_of_ble_eq_true rfl⟩ ⟨Nat.zero_le _, Nat.zero_le _⟩ ?_
  refine wg_bipush (v := 32) X dX7_leave_114 (by decide) ?_
  refine wg_imul X dX7_leave_116 ?_
  refine wg_aload X 9 dX7_leave_117 rfl ?_
  refine wg_iload X 7 dX7_leave_119 rfl ?_
  obtain ⟨r22, h21, h⟩ := bd_some h
  refine wg_callVi (As := [.int x6]) (rest := [.int (r20 * (32 : Int32)), .ref (ad 35)]) X (c_X1_on l E ad S hS C M x8 x6 hx8 h21) T_yX1_on k_644 cl1 hx8 dX7_leave_121 rfl rfl (Nat.le_of_ble_eq_true rfl) ⟨Nat.le_of_ble_eq_true rfl, Nat.le_of_ble_eq_true rfl⟩ ⟨Nat.zero_le _, Nat.zero_le _⟩ ?_
  refine wg_iadd X dX7_leave_124 ?_
  refine wg_aload_n X 1 dX7_leave_125 rfl rfl ?_
  refine wg_getR (b := 37) X cl7 (SCi hS 35 7 rfl) 1 (by decide) dX7_leave_126 k_250 rfl (SCr hS 35 1 37 rfl) ?_
  refine wg_iload_n X 4 dX7_leave_129 rfl rfl ?_
  obtain ⟨z23, h⟩ := ck_some h
  refine wg_iald X (SCi hS 37 10 rfl) (SCl hS 37 192 rfl) z23 dX7_leave_130 ?_
  refine wg_iload X 0 dX7_leave_131 rfl ?_
  refine wg_iadd X dX7_leave_133 ?_
  obtain ⟨C25, h24, h⟩ := bd_some h
  refine wg_callVv (As := [.int ((r20 * (32 : Int32)) + r22), .int ((C 37 x3.toNatClampNeg) + s0)]) (rest := []) X (c_X7_shorten l E ad S hS C M ((r20 * (32 : Int32)) + r22) ((C 37 x3.toNatClampNeg) + s0)  h24) T_yX7_shorten k_606 cl7 (SCi hS 35 7 rfl) dX7_leave_134 rfl rfl (Nat.le_of_ble_eq_true rfl) ⟨Nat.le_of_ble_eq_true rfl, Nat.le_of_ble_eq_true rfl⟩ ⟨Nat.zero_le _, Nat.zero_le _⟩ ?_
  obtain ⟨v26, e27, h⟩ := lt_some h
  refine wg_iinc (lv' := [(7, .int v26), (9, .int s0), (0, .ref (ad 35)), (1, .ref (ad 1)), (2, .ref (ad 31)), (3, .int x3), (4, .int x4), (5, .int x5), (6, .int x6), (8, .ref (ad x8))]) X 8 dX7_leave_137 rfl e27 (by decide) rfl ?_
  refine wg_goto X 39 dX7_leave_140 (by decide) ?_
  refine wg_pick [2, 3, 4, 5, 6, 7, 8, 0] (lv' := [(0, .ref (ad 35)), (1, .ref (ad 1)), (2, .ref (ad 31)), (3, .int x3), (4, .int x4), (5, .int x5), (6, .int x6), (7, .int v26)]) rfl ?_
  exact Kc C25 v26 (sm_inj h).symm
set_option maxHeartbeats 4000000 in
set_option maxRecDepth 100000 in
theorem L_X7_leave_i1_l39 {p : Program} {l : Launch} {e : Env} {s : State} {m : MethodId} {args : Array Value} {below : List Frame} {meth : Method} {c : Code} {E : wg_Ev} {ad : Nat → Nat} {S : wg_Sh} (X : wg_X p s m args meth c cX7_leave 10 RX7 E) (hr : meth.sig.returnType = none) (hS : wg_SC S) (D0 : wg_C) (M : wg_M) (N : Nat)   (x3 : Int32) (x4 : Int32) (x5 : Int32) (x6 : Int32)  : ∀ (n : Nat) (C : wg_C) (x7 : Int32) (o : (wg_C × Int32)), lp (fun o => f_X7_leave_i1_l39 N S  x3 x4 x5 x6 o.1 o.2) n (C, x7) = some o → (∀ (Dy : wg_C) (y7 : Int32), o = (Dy, y7) → G_X7_leave_i1 p l e s m args below meth c E ad S D0 M 143 Dy M [(0, .ref (ad 35)), (1, .ref (ad 1)), (2, .ref (ad 31)), (3, .int x3), (4, .int x4), (5, .int x5), (6, .int x6), (7, .int y7)] []) → G_X7_leave_i1 p l e s m args below meth c E ad S D0 M 39 C M [(0, .ref (ad 35)), (1, .ref (ad 1)), (2, .ref (ad 31)), (3, .int x3), (4, .int x4), (5, .int x5), (6, .int x6), (7, .int x7)] [] := by
  intro n
  induction n with
  | zero => exact fun _ _ o h => (lp_zero h).elim
  | succ n ih =>
    intro C x7 o h K
    obtain ⟨o1, hb, h2⟩ := lp_some h
    replace hb : f_X7_leave_i1_l39 N S  x3 x4 x5 x6 C x7 = some o1 := hb
    clear h
    have Kc : ∀ (Dy : wg_C) (y7 : Int32), o1 = Sum.inl (Dy, y7) → G_X7_leave_i1 p l e s m args below meth c E ad S D0 M 39 Dy M [(0, .ref (ad 35)), (1, .ref (ad 1)), (2, .ref (ad 31)), (3, .int x3), (4, .int x4), (5, .int x5), (6, .int x6), (7, .int y7)] [] := fun Dy y7 e1 => by
      subst e1
      exact ih Dy y7 o h2 K
    have Ke : ∀ (Dy : wg_C) (y7 : Int32), o1 = Sum.inr ((Dy, y7)) → G_X7_leave_i1 p l e s m args below meth c E ad S D0 M 143 Dy M [(0, .ref (ad 35)), (1, .ref (ad 1)), (2, .ref (ad 31)), (3, .int x3), (4, .int x4), (5, .int x5), (6, .int x6), (7, .int y7)] [] := fun Dy y7 e1 => by
      subst e1
      exact K Dy y7 (sm_inj (α := (wg_C × Int32)) h2).symm
    clear ih K h2
    unfold f_X7_leave_i1_l39 at hb
    have h := hb
    clear hb
    refine wg_iload X 7 dX7_leave_39 rfl ?_
    refine wg_aload_n X 1 dX7_leave_41 rfl rfl ?_
    refine wg_getC X cl0 (SCi hS 1 0 rfl) 2 (by decide) dX7_leave_42 k_148 rfl ?_
    refine wg_icmp_ge X 143 dX7_leave_45 (by decide) (fun c6 => ?_) (fun c6 => ?_)
    · have h := if_t c6 h
      exact Ke C x7 (sm_inj h).symm
    · have h := if_f c6 h
      refine wg_aload_n X 1 dX7_leave_48 rfl rfl ?_
      refine wg_getR (b := 3) X cl0 (SCi hS 1 0 rfl) 1 (by decide) dX7_leave_49 k_145 rfl (SCr hS 1 1 3 rfl) ?_
      refine wg_iload X 7 dX7_leave_52 rfl ?_
      obtain ⟨z7, h⟩ := ck_some h
      refine wg_aalS13 (b := 4 + x7.toNatClampNeg) X (SCi hS 3 13 rfl) (SCl hS 3 8 rfl) z7 (SCp hS (inb_lt z7)).1 dX7_leave_54 ?_
      refine wg_astore (lv' := [(8, .ref (ad (4 + x7.toNatClampNeg))), (0, .ref (ad 35)), (1, .ref (ad 1)), (2, .ref (ad 31)), (3, .int x3), (4, .int x4), (5, .int x5), (6, .int x6), (7, .int x7)]) X dX7_leave_55 rfl (by decide) rfl ?_
      refine wg_aload X 0 dX7_leave_57 rfl ?_
      refine wg_getC X cl1 (SCp hS (inb_lt z7)).2.1 4 (by decide) dX7_leave_59 k_123 rfl ?_
      refine wg_iload X 6 dX7_leave_62 rfl ?_
      refine wg_icmp_ne X 137 dX7_leave_64 (by decide) (fun c8 => ?_) (fun c8 => ?_)
      · have h := if_f c8 h
        obtain ⟨v9, e10, h⟩ := lt_some h
        refine wg_iinc (lv' := [(7, .int v9), (8, .ref (ad (4 + x7.toNatClampNeg))), (0, .ref (ad 35)), (1, .ref (ad 1)), (2, .ref (ad 31)), (3, .int x3), (4, .int x4), (5, .int x5), (6, .int x6)]) X 8 dX7_leave_137 rfl e10 (by decide) rfl ?_
        refine wg_goto X 39 dX7_leave_140 (by decide) ?_
        refine wg_pick [2, 3, 4, 5, 6, 7, 8, 0] (lv' := [(0, .ref (ad 35)), (1, .ref (ad 1)), (2, .ref (ad 31)), (3, .int x3), (4, .int x4), (5, .int x5), (6, .int x6), (7, .int v9)]) rfl ?_
        exact Kc C v9 (sm_inj h).symm
      · have h := if_t c8 h
        refine wg_aload X 0 dX7_leave_67 rfl ?_
        refine wg_iload X 7 dX7_leave_69 rfl ?_
        refine wg_iload X 5 dX7_leave_71 rfl ?_
        obtain ⟨r12, h11, h⟩ := bd_some h
        refine wg_callVi (As := [.int x6, .int x4]) (rest := []) X (c_X1_passes l E ad S hS C M (4 + x7.toNatClampNeg) x6 x4 ((SCp hS (inb_lt z7)).2.1) h11) T_yX1_passes k_610 cl1 ((SCp hS (inb_lt z7)).2.1) dX7_leave_73 rfl rfl (Nat.le_of_ble_eq_true rfl) ⟨Nat.le_of_ble_eq_true rfl, Nat.le_of_ble_eq_true rfl⟩ ⟨Nat.zero_le _, Nat.zero_le _⟩ ?_
        refine wg_if_eq X 137 dX7_leave_76 (by decide) (fun c13 => ?_) (fun c13 => ?_)
        · have h := if_t c13 h
          obtain ⟨v14, e15, h⟩ := lt_some h
          refine wg_iinc (lv' := [(7, .int v14), (8, .ref (ad (4 + x7.toNatClampNeg))), (0, .ref (ad 35)), (1, .ref (ad 1)), (2, .ref (ad 31)), (3, .int x3), (4, .int x4), (5, .int x5), (6, .int x6)]) X 8 dX7_leave_137 rfl e15 (by decide) rfl ?_
          refine wg_goto X 39 dX7_leave_140 (by decide) ?_
          refine wg_pick [2, 3, 4, 5, 6, 7, 8, 0] (lv' := [(0, .ref (ad 35)), (1, .ref (ad 1)), (2, .ref (ad 31)), (3, .int x3), (4, .int x4), (5, .int x5), (6, .int x6), (7, .int v14)]) rfl ?_
          exact Kc C v14 (sm_inj h).symm
        · have h := if_f c13 h
          refine wg_aload_n X 3 dX7_leave_79 rfl rfl ?_
          refine wg_nonnull X 89 dX7_leave_80 (by decide) ?_
          refine wg_aload_n X 3 dX7_leave_89 rfl rfl ?_
          refine wg_aload_n X 2 dX7_leave_90 rfl rfl ?_
          refine wg_getC X cl0 (SCi hS 1 0 rfl) 3 (by decide) dX7_leave_91 k_150 rfl ?_
          refine wg_iconst (v := 0) X dX7_leave_94 (by decide) ?_
          refine wg_aload X 0 dX7_leave_95 rfl ?_
          refine wg_iload X 7 dX7_leave_97 rfl ?_
          refine wg_aload_n X 2 dX7_leave_99 rfl rfl ?_
          refine wg_getR (b := 2) X cl0 (SCi hS 1 0 rfl) 0 (by decide) dX7_leave_100 k_142 rfl (SCr hS 1 0 2 rfl) ?_
          obtain ⟨r17, C18, h16, h⟩ := bd2_some h
          refine wg_callVi (As := [.int (C 1 3), .int (0 : Int32), .ref (ad (4 + x7.toNatClampNeg)), .int x6, .ref (ad 2)]) (rest := []) X (c_X3_worth l E ad S hS N C M (C 1 3) (0 : Int32) (4 + x7.toNatClampNeg) x6 2 32 ((SCp hS (inb_lt z7)).2.1) ⟨(SCi hS 2 10 rfl), (SCl hS 2 32 rfl)⟩ h16) T_yX3_worth k_611 cl3 (SCi hS 31 3 rfl) dX7_leave_103 rfl rfl (Nat.le_of_ble_eq_true rfl) ⟨Nat.le_of_ble_eq_true rfl, Nat.le_of_ble_eq_true rfl⟩ ⟨Nat.zero_le _, Nat.zero_le _⟩ ?_
          refine wg_pick [1, 2, 3, 4, 5, 6, 7, 8, 0] (lv' := [(0, .ref (ad 35)), (1, .ref (ad 1)), (2, .ref (ad 31)), (3, .int x3), (4, .int x4), (5, .int x5), (6, .int x6), (7, .int x7), (8, .ref (ad (4 + x7.toNatClampNeg)))]) rfl ?_
          exact J_X7_leave_i1_j106l39 X hr hS D0 M N  C18  x3 x4 x5 x6 x7 (4 + x7.toNatClampNeg) r17 ((SCp hS (inb_lt z7)).2.1) _ Kc Ke h
set_option maxHeartbeats 4000000 in
set_option maxRecDepth 100000 in
theorem J_X7_leave_i1_j36 {p : Program} {l : Launch} {e : Env} {s : State} {m : MethodId} {args : Array Value} {below : List Frame} {meth : Method} {c : Code} {E : wg_Ev} {ad : Nat → Nat} {S : wg_Sh} (X : wg_X p s m args meth c cX7_leave 10 RX7 E) (hr : meth.sig.returnType = none) (hS : wg_SC S) (D0 : wg_C) (M : wg_M) (N : Nat)  (C : wg_C)  (x3 : Int32) (x4 : Int32) (x5 : Int32) (x6 : Int32)   (h : f_X7_leave_i1_j36 N S C  x3 x4 x5 x6 = some D0) : G_X7_leave_i1 p l e s m args below meth c E ad S D0 M 36 C M [(0, .ref (ad 35)), (1, .ref (ad 1)), (2, .ref (ad 31)), (3, .int x3), (4, .int x4), (5, .int x5), (6, .int x6)] [] := by
  unfold f_X7_leave_i1_j36 at h
  refine wg_iconst (v := 0) X dX7_leave_36 (by decide) ?_
  refine wg_istore (lv' := [(7, .int (0 : Int32)), (0, .ref (ad 35)), (1, .ref (ad 1)), (2, .ref (ad 31)), (3, .int x3), (4, .int x4), (5, .int x5), (6, .int x6)]) X dX7_leave_37 rfl (by decide) rfl ?_
  obtain ⟨o30, h31, h⟩ := bd2_o h
  refine wg_pick [1, 2, 3, 4, 5, 6, 7, 0] (lv' := [(0, .ref (ad 35)), (1, .ref (ad 1)), (2, .ref (ad 31)), (3, .int x3), (4, .int x4), (5, .int x5), (6, .int x6), (7, .int (0 : Int32))]) rfl ?_
  refine L_X7_leave_i1_l39 X hr hS D0 M N   x3 x4 x5 x6  N C (0 : Int32) o30 h31 (fun C28 v29 e33 => ?_)
  · subst o30
    replace h := bd2_in h
    exact wg_vret X ⟨(sm_inj h), rfl⟩ hr dX7_leave_143
set_option maxHeartbeats 4000000 in
set_option maxRecDepth 100000 in
theorem c_X7_leave_i1 (l : Launch) (E : wg_Ev) (ad : Nat → Nat) (S : wg_Sh) (hS : wg_SC S) (N : Nat) (C : wg_C) (M : wg_M) (p3 : Int32) (p4 : Int32)  {D0 : wg_C} (h : f_X7_leave_i1 N S C p3 p4 = some D0) : wg_Cv l yX7_leave cX7_leave 10 none 4 96 E ad S C M [.ref (ad 35), .ref (ad 1), .ref (ad 31), .int p3, .int p4] D0 M := by
  refine wg_start (own := RX7) (by decide +kernel) rfl (Nat.le_of_ble_eq_true rfl) ?_
  intro p e s m below meth c X hr hnm
  refine wg_lv (lv' := [(0, .ref (ad 35)), (1, .ref (ad 1)), (2, .ref (ad 31)), (3, .int p3), (4, .int p4)]) rfl ?_
  unfold f_X7_leave_i1 at h
  refine wg_iload_n X 3 dX7_leave_0 rfl rfl ?_
  refine wg_bipush (v := 32) X dX7_leave_1 (by decide) ?_
  refine wg_idiv X dX7_leave_3 (by decide) ?_
  obtain ⟨v1, e2, h⟩ := lt_some h
  refine wg_istore (lv' := [(5, .int v1), (0, .ref (ad 35)), (1, .ref (ad 1)), (2, .ref (ad 31)), (3, .int p3), (4, .int p4)]) X dX7_leave_4 e2 (by decide) rfl ?_
  refine wg_iload_n X 4 dX7_leave_6 rfl rfl ?_
  refine wg_bipush (v := 32) X dX7_leave_7 (by decide) ?_
  refine wg_irem X dX7_leave_9 (by decide) ?_
  obtain ⟨v3, e4, h⟩ := lt_some h
  refine wg_istore (lv' := [(6, .int v3), (5, .int v1), (0, .ref (ad 35)), (1, .ref (ad 1)), (2, .ref (ad 31)), (3, .int p3), (4, .int p4)]) X dX7_leave_10 e4 (by decide) rfl ?_
  refine wg_iload X 0 dX7_leave_12 rfl ?_
  refine wg_iconst (v := 1) X dX7_leave_14 (by decide) ?_
  refine wg_iadd X dX7_leave_15 ?_
  refine wg_bipush (v := 32) X dX7_leave_16 (by decide) ?_
  refine wg_icmp_ge X 36 dX7_leave_18 (by decide) (fun c5 => ?_) (fun c5 => ?_)
  · have h := if_t c5 h
    refine wg_pick [2, 3, 4, 5, 6, 1, 0] (lv' := [(0, .ref (ad 35)), (1, .ref (ad 1)), (2, .ref (ad 31)), (3, .int p3), (4, .int p4), (5, .int v1), (6, .int v3)]) rfl ?_
    exact J_X7_leave_i1_j36 X hr hS D0 M N  C  p3 p4 v1 v3   h
  · have h := if_f c5 h
    refine wg_aload_n X 2 dX7_leave_21 rfl rfl ?_
    refine wg_iload_n X 5 dX7_leave_22 rfl rfl ?_
    refine wg_iconst (v := 1) X dX7_leave_23 (by decide) ?_
    refine wg_iadd X dX7_leave_24 ?_
    refine wg_aload_n X 2 dX7_leave_25 rfl rfl ?_
    refine wg_getR (b := 37) X cl7 (SCi hS 35 7 rfl) 1 (by decide) dX7_leave_26 k_250 rfl (SCr hS 35 1 37 rfl) ?_
    refine wg_iload_n X 5 dX7_leave_29 rfl rfl ?_
    obtain ⟨z34, h⟩ := ck_some h
    refine wg_iald X (SCi hS 37 10 rfl) (SCl hS 37 192 rfl) z34 dX7_leave_30 ?_
    refine wg_iconst (v := 1) X dX7_leave_31 (by decide) ?_
    refine wg_iadd X dX7_leave_32 ?_
    obtain ⟨C36, h35, h⟩ := bd_some h
    refine wg_callVv (As := [.int (p3 + (1 : Int32)), .int ((C 37 p3.toNatClampNeg) + (1 : Int32))]) (rest := []) X (c_X7_shorten l E ad S hS C M (p3 + (1 : Int32)) ((C 37 p3.toNatClampNeg) + (1 : Int32))  h35) T_yX7_shorten k_606 cl7 (SCi hS 35 7 rfl) dX7_leave_33 rfl rfl (Nat.le_of_ble_eq_true rfl) ⟨Nat.le_of_ble_eq_true rfl, Nat.le_of_ble_eq_true rfl⟩ ⟨Nat.zero_le _, Nat.zero_le _⟩ ?_
    refine wg_pick [2, 3, 4, 5, 6, 1, 0] (lv' := [(0, .ref (ad 35)), (1, .ref (ad 1)), (2, .ref (ad 31)), (3, .int p3), (4, .int p4), (5, .int v1), (6, .int v3)]) rfl ?_
    exact J_X7_leave_i1_j36 X hr hS D0 M N  C36  p3 p4 v1 v3   h
-- WindowsGive$Walk.search(LWindowsGive$House;LWindowsGive$Rules;II)V (('c', 35), ('c', 1), ('c', 31), 'i', 'i')
def f_X7_search_i1_l27 (N : Nat) (S : wg_Sh)  (x4 : Int32) (C : wg_C) (x5 : Int32) : Option ((wg_C × Int32) ⊕ ((wg_C × Int32) ⊕ wg_C)) :=
  if (192 : Int32) ≤ x5 then (
    some (.inr (.inl (C, x5))))
  else (
    bd (f_X7_nearest N C ) fun r10 =>
    if r10 = (-1 : Int32) then (
      some (.inr (.inr C)))
    else (
      ck (inb r10 192) <|
      lt_ (wg_up C 38 r10.toNatClampNeg (1 : Int32)) fun C13 =>
      bd (f_X7_leave_i1 N S C13 r10 x4) fun C16 =>
      lt_ (x5 + (1 : Int32)) fun v17 =>
      some (.inl (C16, v17))))
def f_X7_search_i1 (N : Nat) (S : wg_Sh) (C : wg_C) (p3 : Int32) (p4 : Int32) : Option wg_C :=
  bd (f_J7_fill_53178 N C 37 192 (1000000000 : Int32)) fun C2 =>
  bd (f_J7_fill_53178 N C2 38 192 (0 : Int32)) fun C4 =>
  ck (inb p3 192) <|
  lt_ (wg_up C4 37 p3.toNatClampNeg (0 : Int32)) fun C6 =>
  bs2 (lp (fun o => f_X7_search_i1_l27 N S  p4 o.1 o.2) N (C6, (0 : Int32))) (fun C19 v20 =>
    some C19)
    (fun q23 => some q23)
abbrev G_X7_search_i1 (p : Program) (l : Launch) (e : Env) (s : State) (m : MethodId) (args : Array Value) (below : List Frame) (meth : Method) (c : Code) (E : wg_Ev) (ad : Nat → Nat) (S : wg_Sh) (C0 : wg_C) (M0 : wg_M) (pc : Nat) (C : wg_C) (M : wg_M) (lv : List (Nat × Value)) (st : List Value) : Prop := wg_G p l e (wg_Rm 5 125) s m args below meth c (MQ below (wg_Qv E ad S C0 M0) args s 0 0 (wg_A E)) 7 E ad S 0 0 pc C M lv st
set_option maxHeartbeats 4000000 in
set_option maxRecDepth 100000 in
theorem L_X7_search_i1_l27 {p : Program} {l : Launch} {e : Env} {s : State} {m : MethodId} {args : Array Value} {below : List Frame} {meth : Method} {c : Code} {E : wg_Ev} {ad : Nat → Nat} {S : wg_Sh} (X : wg_X p s m args meth c cX7_search 7 RX7 E) (hr : meth.sig.returnType = none) (hS : wg_SC S) (D0 : wg_C) (M : wg_M) (N : Nat)   (x4 : Int32)  : ∀ (n : Nat) (C : wg_C) (x5 : Int32) (o : ((wg_C × Int32) ⊕ wg_C)), lp (fun o => f_X7_search_i1_l27 N S  x4 o.1 o.2) n (C, x5) = some o → (∀ (Dy : wg_C) (y5 : Int32), o = Sum.inl (Dy, y5) → G_X7_search_i1 p l e s m args below meth c E ad S D0 M 72 Dy M [(0, .ref (ad 35)), (1, .ref (ad 1)), (2, .ref (ad 31)), (4, .int x4), (5, .int y5)] []) → (∀ q : wg_C, o = Sum.inr q → q = D0) → G_X7_search_i1 p l e s m args below meth c E ad S D0 M 27 C M [(0, .ref (ad 35)), (1, .ref (ad 1)), (2, .ref (ad 31)), (4, .int x4), (5, .int x5)] [] := by
  intro n
  induction n with
  | zero => exact fun _ _ o h => (lp_zero h).elim
  | succ n ih =>
    intro C x5 o h K KR
    obtain ⟨o1, hb, h2⟩ := lp_some h
    replace hb : f_X7_search_i1_l27 N S  x4 C x5 = some o1 := hb
    clear h
    have Kc : ∀ (Dy : wg_C) (y5 : Int32), o1 = Sum.inl (Dy, y5) → G_X7_search_i1 p l e s m args below meth c E ad S D0 M 27 Dy M [(0, .ref (ad 35)), (1, .ref (ad 1)), (2, .ref (ad 31)), (4, .int x4), (5, .int y5)] [] := fun Dy y5 e1 => by
      subst e1
      exact ih Dy y5 o h2 K KR
    have Ke : ∀ (Dy : wg_C) (y5 : Int32), o1 = Sum.inr (Sum.inl (Dy, y5)) → G_X7_search_i1 p l e s m args below meth c E ad S D0 M 72 Dy M [(0, .ref (ad 35)), (1, .ref (ad 1)), (2, .ref (ad 31)), (4, .int x4), (5, .int y5)] [] := fun Dy y5 e1 => by
      subst e1
      exact K Dy y5 (sm_inj (α := ((wg_C × Int32) ⊕ wg_C)) h2).symm
    have Kr : ∀ q : wg_C, o1 = Sum.inr (Sum.inr q) → q = D0 := fun q e1 => by
      subst e1
      exact KR q (sm_inj (α := ((wg_C × Int32) ⊕ wg_C)) h2).symm
    clear ih K h2 KR
    unfold f_X7_search_i1_l27 at hb
    have h := hb
    clear hb
    refine wg_iload X 4 dX7_search_27 rfl ?_
    refine wg_sipush (v := 192) X dX7_search_29 (by decide) ?_
    refine wg_icmp_ge X 72 dX7_search_32 (by decide) (fun c8 => ?_) (fun c8 => ?_)
    · have h := if_t c8 h
      exact Ke C x5 (sm_inj h).symm
    · have h := if_f c8 h
      refine wg_aload_n X 0 dX7_search_35 rfl rfl ?_
      obtain ⟨r10, h9, h⟩ := bd_some h
      refine wg_callVi (As := []) (rest := []) X (c_X7_nearest l E ad S hS N C M   h9) T_yX7_nearest k_598 cl7 (SCi hS 35 7 rfl) dX7_search_36 rfl rfl (Nat.le_of_ble_eq_true rfl) ⟨Nat.le_of_ble_eq_true rfl, Nat.le_of_ble_eq_true rfl⟩ ⟨Nat.zero_le _, Nat.zero_le _⟩ ?_
      refine wg_istore (lv' := [(6, .int r10), (0, .ref (ad 35)), (1, .ref (ad 1)), (2, .ref (ad 31)), (4, .int x4), (5, .int x5)]) X dX7_search_39 rfl (by decide) rfl ?_
      refine wg_iload X 0 dX7_search_41 rfl ?_
      refine wg_iconst (v := -1) X dX7_search_43 (by decide) ?_
      refine wg_icmp_ne X 48 dX7_search_44 (by decide) (fun c11 => ?_) (fun c11 => ?_)
      · have h := if_f c11 h
        refine wg_aload_n X 1 dX7_search_48 rfl rfl ?_
        refine wg_getR (b := 38) X cl7 (SCi hS 35 7 rfl) 2 (by decide) dX7_search_49 k_252 rfl (SCr hS 35 2 38 rfl) ?_
        refine wg_iload X 0 dX7_search_52 rfl ?_
        refine wg_iconst (v := 1) X dX7_search_54 (by decide) ?_
        obtain ⟨z12, h⟩ := ck_some h
        obtain ⟨C13, e14, h⟩ := lt_some h
        refine wg_iaste X (SCi hS 38 10 rfl) (SCl hS 38 192 rfl) z12 dX7_search_55 e14 ?_
        refine wg_aload_n X 1 dX7_search_56 rfl rfl ?_
        refine wg_aload_n X 2 dX7_search_57 rfl rfl ?_
        refine wg_aload_n X 3 dX7_search_58 rfl rfl ?_
        refine wg_iload X 0 dX7_search_59 rfl ?_
        refine wg_iload X 4 dX7_search_61 rfl ?_
        obtain ⟨C16, h15, h⟩ := bd_some h
        refine wg_callVv (As := [.ref (ad 1), .ref (ad 31), .int r10, .int x4]) (rest := []) X (c_X7_leave_i1 l E ad S hS N C13 M r10 x4  h15) T_yX7_leave k_602 cl7 (SCi hS 35 7 rfl) dX7_search_63 rfl rfl (Nat.le_of_ble_eq_true rfl) ⟨Nat.le_of_ble_eq_true rfl, Nat.le_of_ble_eq_true rfl⟩ ⟨Nat.zero_le _, Nat.zero_le _⟩ ?_
        obtain ⟨v17, e18, h⟩ := lt_some h
        refine wg_iinc (lv' := [(5, .int v17), (6, .int r10), (0, .ref (ad 35)), (1, .ref (ad 1)), (2, .ref (ad 31)), (4, .int x4)]) X 5 dX7_search_66 rfl e18 (by decide) rfl ?_
        refine wg_goto X 27 dX7_search_69 (by decide) ?_
        refine wg_pick [2, 3, 4, 5, 0] (lv' := [(0, .ref (ad 35)), (1, .ref (ad 1)), (2, .ref (ad 31)), (4, .int x4), (5, .int v17)]) rfl ?_
        exact Kc C16 v17 (sm_inj h).symm
      · have h := if_t c11 h
        have hq := Kr _ (sm_inj h).symm
        exact wg_vret X ⟨hq, rfl⟩ hr dX7_search_47
set_option maxHeartbeats 4000000 in
set_option maxRecDepth 100000 in
theorem c_X7_search_i1 (l : Launch) (E : wg_Ev) (ad : Nat → Nat) (S : wg_Sh) (hS : wg_SC S) (N : Nat) (C : wg_C) (M : wg_M) (p3 : Int32) (p4 : Int32)  {D0 : wg_C} (h : f_X7_search_i1 N S C p3 p4 = some D0) : wg_Cv l yX7_search cX7_search 7 none 5 125 E ad S C M [.ref (ad 35), .ref (ad 1), .ref (ad 31), .int p3, .int p4] D0 M := by
  refine wg_start (own := RX7) (by decide +kernel) rfl (Nat.le_of_ble_eq_true rfl) ?_
  intro p e s m below meth c X hr hnm
  refine wg_lv (lv' := [(0, .ref (ad 35)), (1, .ref (ad 1)), (2, .ref (ad 31)), (3, .int p3), (4, .int p4)]) rfl ?_
  unfold f_X7_search_i1 at h
  refine wg_aload_n X 0 dX7_search_0 rfl rfl ?_
  refine wg_getR (b := 37) X cl7 (SCi hS 35 7 rfl) 1 (by decide) dX7_search_1 k_250 rfl (SCr hS 35 1 37 rfl) ?_
  refine wg_ldc (v := 1000000000) X dX7_search_4 k_594 ?_
  obtain ⟨C2, h1, h⟩ := bd_some h
  refine wg_callSv (As := [.ref (ad 37), .int (1000000000 : Int32)]) (rest := []) X (c_J7_fill_53178 l E ad S hS N C M 37 192 (1000000000 : Int32) ⟨(SCi hS 37 10 rfl), (SCl hS 37 192 rfl)⟩ h1) T_yJ7_fill_53178 k_595 dX7_search_6 rfl rfl (Nat.le_of_ble_eq_true rfl) ⟨Nat.le_of_ble_eq_true rfl, Nat.le_of_ble_eq_true rfl⟩ ⟨Nat.zero_le _, Nat.zero_le _⟩ ?_
  refine wg_aload_n X 0 dX7_search_9 rfl rfl ?_
  refine wg_getR (b := 38) X cl7 (SCi hS 35 7 rfl) 2 (by decide) dX7_search_10 k_252 rfl (SCr hS 35 2 38 rfl) ?_
  refine wg_iconst (v := 0) X dX7_search_13 (by decide) ?_
  obtain ⟨C4, h3, h⟩ := bd_some h
  refine wg_callSv (As := [.ref (ad 38), .int (0 : Int32)]) (rest := []) X (c_J7_fill_53178 l E ad S hS N C2 M 38 192 (0 : Int32) ⟨(SCi hS 38 10 rfl), (SCl hS 38 192 rfl)⟩ h3) T_yJ7_fill_53178 k_595 dX7_search_14 rfl rfl (Nat.le_of_ble_eq_true rfl) ⟨Nat.le_of_ble_eq_true rfl, Nat.le_of_ble_eq_true rfl⟩ ⟨Nat.zero_le _, Nat.zero_le _⟩ ?_
  refine wg_aload_n X 0 dX7_search_17 rfl rfl ?_
  refine wg_getR (b := 37) X cl7 (SCi hS 35 7 rfl) 1 (by decide) dX7_search_18 k_250 rfl (SCr hS 35 1 37 rfl) ?_
  refine wg_iload_n X 3 dX7_search_21 rfl rfl ?_
  refine wg_iconst (v := 0) X dX7_search_22 (by decide) ?_
  obtain ⟨z5, h⟩ := ck_some h
  obtain ⟨C6, e7, h⟩ := lt_some h
  refine wg_iaste X (SCi hS 37 10 rfl) (SCl hS 37 192 rfl) z5 dX7_search_23 e7 ?_
  refine wg_iconst (v := 0) X dX7_search_24 (by decide) ?_
  refine wg_istore (lv' := [(5, .int (0 : Int32)), (0, .ref (ad 35)), (1, .ref (ad 1)), (2, .ref (ad 31)), (3, .int p3), (4, .int p4)]) X dX7_search_25 rfl (by decide) rfl ?_
  obtain ⟨o21, h22, h⟩ := bs2_o h
  refine wg_pick [1, 2, 3, 5, 0] (lv' := [(0, .ref (ad 35)), (1, .ref (ad 1)), (2, .ref (ad 31)), (4, .int p4), (5, .int (0 : Int32))]) rfl ?_
  refine L_X7_search_i1_l27 X hr hS D0 M N   p4  N C6 (0 : Int32) o21 h22 (fun C19 v20 e24 => ?_) (fun q23 e24 => ?_)
  · subst o21
    replace h := bs2_in h
    exact wg_vret X ⟨(sm_inj h), rfl⟩ hr dX7_search_72
  · subst o21
    replace h := bs2_r h
    exact sm_inj h
-- WindowsGive.cost(III)I (('c', 0), 'i', 'i', 'i')
def f_X8_cost (N : Nat) (S : wg_Sh) (C : wg_C) (p1 : Int32) (p2 : Int32) (p3 : Int32) : Option (Int32 × wg_C) :=
  bd (f_X8_isSpot p1) fun r2 =>
  if r2 = 0 then (
    some ((-2 : Int32), C))
  else (
    bd (f_X8_isSpot p2) fun r5 =>
    if r5 = 0 then (
      some ((-2 : Int32), C))
    else (
      bd (f_X8_isSort p3) fun r8 =>
      if r8 = 0 then (
        some ((-2 : Int32), C))
      else (
        bd (f_X7_search_i1 N S C p1 p3) fun C11 =>
        ck (inb p2 192) <|
        if (C11 37 p2.toNatClampNeg) < (1000000000 : Int32) then (
          ck (inb p2 192) <|
          some ((C11 37 p2.toNatClampNeg), C11))
        else (
          some ((-1 : Int32), C11)))))
set_option maxHeartbeats 4000000 in
set_option maxRecDepth 100000 in
theorem c_X8_cost (l : Launch) (E : wg_Ev) (ad : Nat → Nat) (S : wg_Sh) (hS : wg_SC S) (N : Nat) (C : wg_C) (M : wg_M) (p1 : Int32) (p2 : Int32) (p3 : Int32)  {r0 : Int32} {D0 : wg_C} (h : f_X8_cost N S C p1 p2 p3 = some (r0, D0)) : wg_Ci l yX8_cost cX8_cost 4 (some .int) 6 151 E ad S C M [.ref (ad 0), .int p1, .int p2, .int p3] r0 D0 M := by
  refine wg_start (own := RX8) (by decide +kernel) rfl (Nat.le_of_ble_eq_true rfl) ?_
  intro p e s m below meth c X hr hnm
  refine wg_lv (lv' := [(0, .ref (ad 0)), (1, .int p1), (2, .int p2), (3, .int p3)]) rfl ?_
  unfold f_X8_cost at h
  refine wg_iload_n X 1 dX8_cost_0 rfl rfl ?_
  obtain ⟨r2, h1, h⟩ := bd_some h
  refine wg_callSi (As := [.int p1]) (rest := []) X (c_X8_isSpot l E ad S C M p1  h1) T_yX8_isSpot k_587 dX8_cost_1 rfl rfl (Nat.le_of_ble_eq_true rfl) ⟨Nat.le_of_ble_eq_true rfl, Nat.le_of_ble_eq_true rfl⟩ ⟨Nat.zero_le _, Nat.zero_le _⟩ ?_
  refine wg_if_eq X 21 dX8_cost_4 (by decide) (fun c3 => ?_) (fun c3 => ?_)
  · have h := if_t c3 h
    refine wg_bipush (v := -2) X dX8_cost_21 (by decide) ?_
    exact wg_iret X ⟨(Prod.mk.inj (sm_inj h)).1, (Prod.mk.inj (sm_inj h)).2, rfl⟩ hr dX8_cost_23
  · have h := if_f c3 h
    refine wg_iload_n X 2 dX8_cost_7 rfl rfl ?_
    obtain ⟨r5, h4, h⟩ := bd_some h
    refine wg_callSi (As := [.int p2]) (rest := []) X (c_X8_isSpot l E ad S C M p2  h4) T_yX8_isSpot k_587 dX8_cost_8 rfl rfl (Nat.le_of_ble_eq_true rfl) ⟨Nat.le_of_ble_eq_true rfl, Nat.le_of_ble_eq_true rfl⟩ ⟨Nat.zero_le _, Nat.zero_le _⟩ ?_
    refine wg_if_eq X 21 dX8_cost_11 (by decide) (fun c6 => ?_) (fun c6 => ?_)
    · have h := if_t c6 h
      refine wg_bipush (v := -2) X dX8_cost_21 (by decide) ?_
      exact wg_iret X ⟨(Prod.mk.inj (sm_inj h)).1, (Prod.mk.inj (sm_inj h)).2, rfl⟩ hr dX8_cost_23
    · have h := if_f c6 h
      refine wg_iload_n X 3 dX8_cost_14 rfl rfl ?_
      obtain ⟨r8, h7, h⟩ := bd_some h
      refine wg_callSi (As := [.int p3]) (rest := []) X (c_X8_isSort l E ad S C M p3  h7) T_yX8_isSort k_554 dX8_cost_15 rfl rfl (Nat.le_of_ble_eq_true rfl) ⟨Nat.le_of_ble_eq_true rfl, Nat.le_of_ble_eq_true rfl⟩ ⟨Nat.zero_le _, Nat.zero_le _⟩ ?_
      refine wg_if_ne X 24 dX8_cost_18 (by decide) (fun c9 => ?_) (fun c9 => ?_)
      · have h := if_f c9 h
        refine wg_aload_n X 0 dX8_cost_24 rfl rfl ?_
        refine wg_getR (b := 35) X cl8 (SCi hS 0 8 rfl) 6 (by decide) dX8_cost_25 k_478 rfl (SCr hS 0 6 35 rfl) ?_
        refine wg_aload_n X 0 dX8_cost_28 rfl rfl ?_
        refine wg_getR (b := 1) X cl8 (SCi hS 0 8 rfl) 0 (by decide) dX8_cost_29 k_472 rfl (SCr hS 0 0 1 rfl) ?_
        refine wg_aload_n X 0 dX8_cost_32 rfl rfl ?_
        refine wg_getR (b := 31) X cl8 (SCi hS 0 8 rfl) 5 (by decide) dX8_cost_33 k_477 rfl (SCr hS 0 5 31 rfl) ?_
        refine wg_iload_n X 1 dX8_cost_36 rfl rfl ?_
        refine wg_iload_n X 3 dX8_cost_37 rfl rfl ?_
        obtain ⟨C11, h10, h⟩ := bd_some h
        refine wg_callVv (As := [.ref (ad 1), .ref (ad 31), .int p1, .int p3]) (rest := []) X (c_X7_search_i1 l E ad S hS N C M p1 p3  h10) T_yX7_search k_590 cl7 (SCi hS 35 7 rfl) dX8_cost_38 rfl rfl (Nat.le_of_ble_eq_true rfl) ⟨Nat.le_of_ble_eq_true rfl, Nat.le_of_ble_eq_true rfl⟩ ⟨Nat.zero_le _, Nat.zero_le _⟩ ?_
        refine wg_aload_n X 0 dX8_cost_41 rfl rfl ?_
        refine wg_getR (b := 35) X cl8 (SCi hS 0 8 rfl) 6 (by decide) dX8_cost_42 k_478 rfl (SCr hS 0 6 35 rfl) ?_
        refine wg_getR (b := 37) X cl7 (SCi hS 35 7 rfl) 1 (by decide) dX8_cost_45 k_251 rfl (SCr hS 35 1 37 rfl) ?_
        refine wg_iload_n X 2 dX8_cost_48 rfl rfl ?_
        obtain ⟨z12, h⟩ := ck_some h
        refine wg_iald X (SCi hS 37 10 rfl) (SCl hS 37 192 rfl) z12 dX8_cost_49 ?_
        refine wg_ldc (v := 1000000000) X dX8_cost_50 k_645 ?_
        refine wg_icmp_lt X 59 dX8_cost_52 (by decide) (fun c13 => ?_) (fun c13 => ?_)
        · have h := if_t c13 h
          refine wg_aload_n X 0 dX8_cost_59 rfl rfl ?_
          refine wg_getR (b := 35) X cl8 (SCi hS 0 8 rfl) 6 (by decide) dX8_cost_60 k_478 rfl (SCr hS 0 6 35 rfl) ?_
          refine wg_getR (b := 37) X cl7 (SCi hS 35 7 rfl) 1 (by decide) dX8_cost_63 k_251 rfl (SCr hS 35 1 37 rfl) ?_
          refine wg_iload_n X 2 dX8_cost_66 rfl rfl ?_
          obtain ⟨z14, h⟩ := ck_some h
          refine wg_iald X (SCi hS 37 10 rfl) (SCl hS 37 192 rfl) z14 dX8_cost_67 ?_
          exact wg_iret X ⟨(Prod.mk.inj (sm_inj h)).1, (Prod.mk.inj (sm_inj h)).2, rfl⟩ hr dX8_cost_68
        · have h := if_f c13 h
          refine wg_iconst (v := -1) X dX8_cost_55 (by decide) ?_
          refine wg_goto X 68 dX8_cost_56 (by decide) ?_
          exact wg_iret X ⟨(Prod.mk.inj (sm_inj h)).1, (Prod.mk.inj (sm_inj h)).2, rfl⟩ hr dX8_cost_68
      · have h := if_t c9 h
        refine wg_bipush (v := -2) X dX8_cost_21 (by decide) ?_
        exact wg_iret X ⟨(Prod.mk.inj (sm_inj h)).1, (Prod.mk.inj (sm_inj h)).2, rfl⟩ hr dX8_cost_23
-- WindowsGive$Pane.firstOut(II)I ('P', 'i', 'i')
def f_X1_firstOut_l2 (N : Nat) (p0 : Nat) (C : wg_C)  (x2 : Int32) (x3 : Int32) : Option ((Int32) ⊕ ((Int32) ⊕ Int32)) :=
  if (32 : Int32) ≤ x3 then (
    some (.inr (.inl x3)))
  else (
    bd (f_X1_passes C p0 x3 x2) fun r3 =>
    if r3 = 0 then (
      lt_ (x3 + (1 : Int32)) fun v5 =>
      some (.inl v5))
    else (
      bd (f_X1_on C p0 x3) fun r8 =>
      some (.inr (.inr r8))))
def f_X1_firstOut (N : Nat) (C : wg_C) (p0 : Nat) (p1 : Int32) (p2 : Int32) : Option Int32 :=
  bs1 (lp (fun o => f_X1_firstOut_l2 N p0 C  p2 o) N p1) (fun v9 =>
    some (32 : Int32))
    (fun q12 => some q12)
abbrev G_X1_firstOut (p : Program) (l : Launch) (e : Env) (s : State) (m : MethodId) (args : Array Value) (below : List Frame) (meth : Method) (c : Code) (E : wg_Ev) (ad : Nat → Nat) (S : wg_Sh) (r0 : Int32) (C0 : wg_C) (M0 : wg_M) (pc : Nat) (C : wg_C) (M : wg_M) (lv : List (Nat × Value)) (st : List Value) : Prop := wg_G p l e (wg_Rm 2 44) s m args below meth c (MQ below (wg_Qi E ad S r0 C0 M0) args s 0 0 (wg_A E)) 4 E ad S 0 0 pc C M lv st
set_option maxHeartbeats 4000000 in
set_option maxRecDepth 100000 in
theorem L_X1_firstOut_l2 {p : Program} {l : Launch} {e : Env} {s : State} {m : MethodId} {args : Array Value} {below : List Frame} {meth : Method} {c : Code} {E : wg_Ev} {ad : Nat → Nat} {S : wg_Sh} (X : wg_X p s m args meth c cX1_firstOut 4 RX1 E) (hr : meth.sig.returnType = (some .int)) (hS : wg_SC S) (r0 : Int32) (M : wg_M) (N : Nat) (p0 : Nat) (hp0 : wg_id S p0 1) (C : wg_C)  (x2 : Int32)  : ∀ (n : Nat) (x3 : Int32) (o : ((Int32) ⊕ Int32)), lp (fun o => f_X1_firstOut_l2 N p0 C  x2 o) n x3 = some o → (∀ (y3 : Int32), o = Sum.inl y3 → G_X1_firstOut p l e s m args below meth c E ad S r0 C M 29 C M [(0, .ref (ad p0)), (2, .int x2), (3, .int y3)] []) → (∀ q : Int32, o = Sum.inr q → q = r0) → G_X1_firstOut p l e s m args below meth c E ad S r0 C M 2 C M [(0, .ref (ad p0)), (2, .int x2), (3, .int x3)] [] := by
  intro n
  induction n with
  | zero => exact fun _ o h => (lp_zero h).elim
  | succ n ih =>
    intro x3 o h K KR
    obtain ⟨o1, hb, h2⟩ := lp_some h
    replace hb : f_X1_firstOut_l2 N p0 C  x2 x3 = some o1 := hb
    clear h
    have Kc : ∀ (y3 : Int32), o1 = Sum.inl y3 → G_X1_firstOut p l e s m args below meth c E ad S r0 C M 2 C M [(0, .ref (ad p0)), (2, .int x2), (3, .int y3)] [] := fun y3 e1 => by
      subst e1
      exact ih y3 o h2 K KR
    have Ke : ∀ (y3 : Int32), o1 = Sum.inr (Sum.inl y3) → G_X1_firstOut p l e s m args below meth c E ad S r0 C M 29 C M [(0, .ref (ad p0)), (2, .int x2), (3, .int y3)] [] := fun y3 e1 => by
      subst e1
      exact K y3 (sm_inj (α := ((Int32) ⊕ Int32)) h2).symm
    have Kr : ∀ q : Int32, o1 = Sum.inr (Sum.inr q) → q = r0 := fun q e1 => by
      subst e1
      exact KR q (sm_inj (α := ((Int32) ⊕ Int32)) h2).symm
    clear ih K h2 KR
    unfold f_X1_firstOut_l2 at hb
    have h := hb
    clear hb
    refine wg_iload_n X 2 dX1_firstOut_2 rfl rfl ?_
    refine wg_bipush (v := 32) X dX1_firstOut_3 (by decide) ?_
    refine wg_icmp_ge X 29 dX1_firstOut_5 (by decide) (fun c1 => ?_) (fun c1 => ?_)
    · have h := if_t c1 h
      exact Ke x3 (sm_inj h).symm
    · have h := if_f c1 h
      refine wg_aload_n X 0 dX1_firstOut_8 rfl rfl ?_
      refine wg_iload_n X 2 dX1_firstOut_9 rfl rfl ?_
      refine wg_iload_n X 1 dX1_firstOut_10 rfl rfl ?_
      obtain ⟨r3, h2, h⟩ := bd_some h
      refine wg_callVi (As := [.int x3, .int x2]) (rest := []) X (c_X1_passes l E ad S hS C M p0 x3 x2 hp0 h2) T_yX1_passes k_666 cl1 hp0 dX1_firstOut_11 rfl rfl (Nat.le_of_ble_eq_true rfl) ⟨Nat.le_of_ble_eq_true rfl, Nat.le_of_ble_eq_true rfl⟩ ⟨Nat.zero_le _, Nat.zero_le _⟩ ?_
      refine wg_if_eq X 23 dX1_firstOut_14 (by decide) (fun c4 => ?_) (fun c4 => ?_)
      · have h := if_t c4 h
        obtain ⟨v5, e6, h⟩ := lt_some h
        refine wg_iinc (lv' := [(3, .int v5), (0, .ref (ad p0)), (2, .int x2)]) X 2 dX1_firstOut_23 rfl e6 (by decide) rfl ?_
        refine wg_goto X 2 dX1_firstOut_26 (by decide) ?_
        refine wg_pick [1, 2, 0] (lv' := [(0, .ref (ad p0)), (2, .int x2), (3, .int v5)]) rfl ?_
        exact Kc v5 (sm_inj h).symm
      · have h := if_f c4 h
        refine wg_aload_n X 0 dX1_firstOut_17 rfl rfl ?_
        refine wg_iload_n X 2 dX1_firstOut_18 rfl rfl ?_
        obtain ⟨r8, h7, h⟩ := bd_some h
        refine wg_callVi (As := [.int x3]) (rest := []) X (c_X1_on l E ad S hS C M p0 x3 hp0 h7) T_yX1_on k_565 cl1 hp0 dX1_firstOut_19 rfl rfl (Nat.le_of_ble_eq_true rfl) ⟨Nat.le_of_ble_eq_true rfl, Nat.le_of_ble_eq_true rfl⟩ ⟨Nat.zero_le _, Nat.zero_le _⟩ ?_
        have hq := Kr _ (sm_inj h).symm
        exact wg_iret X ⟨hq, rfl, rfl⟩ hr dX1_firstOut_22
set_option maxHeartbeats 4000000 in
set_option maxRecDepth 100000 in
theorem c_X1_firstOut (l : Launch) (E : wg_Ev) (ad : Nat → Nat) (S : wg_Sh) (hS : wg_SC S) (N : Nat) (C : wg_C) (M : wg_M) (p0 : Nat) (p1 : Int32) (p2 : Int32) (hp0 : wg_id S p0 1) {r0 : Int32} (h : f_X1_firstOut N C p0 p1 p2 = some r0) : wg_Ci l yX1_firstOut cX1_firstOut 4 (some .int) 2 44 E ad S C M [.ref (ad p0), .int p1, .int p2] r0 C M := by
  refine wg_start (own := RX1) (by decide +kernel) rfl (Nat.le_of_ble_eq_true rfl) ?_
  intro p e s m below meth c X hr hnm
  refine wg_lv (lv' := [(0, .ref (ad p0)), (1, .int p1), (2, .int p2)]) rfl ?_
  unfold f_X1_firstOut at h
  refine wg_iload_n X 1 dX1_firstOut_0 rfl rfl ?_
  refine wg_istore_n (lv' := [(3, .int p1), (0, .ref (ad p0)), (1, .int p1), (2, .int p2)]) X dX1_firstOut_1 rfl rfl (by decide) rfl ?_
  obtain ⟨o10, h11, h⟩ := bs1_o h
  refine wg_pick [1, 3, 0] (lv' := [(0, .ref (ad p0)), (2, .int p2), (3, .int p1)]) rfl ?_
  refine L_X1_firstOut_l2 X hr hS r0 M N p0 hp0 C  p2  N p1 o10 h11 (fun v9 e13 => ?_) (fun q12 e13 => ?_)
  · subst o10
    replace h := bs1_in h
    refine wg_bipush (v := 32) X dX1_firstOut_29 (by decide) ?_
    exact wg_iret X ⟨(sm_inj h), rfl, rfl⟩ hr dX1_firstOut_31
  · subst o10
    replace h := bs1_r h
    exact sm_inj h
-- WindowsGive$Walk.passAll(LWindowsGive$House;II)Z (('c', 35), ('c', 1), 'i', 'i')
def f_X7_passAll_l6 (N : Nat)  (x2 : Int32) (x3 : Int32) (C : wg_C) (x4 : Int32) (x5 : Int32) : Option ((wg_C × Int32 × Int32) ⊕ (wg_C × Int32 × Int32)) :=
  if (C 1 2) ≤ x5 then (
    some (.inr (C, x4, x5)))
  else (
    ck (inb x5 8) <|
    if ((x3 >>> (x5 &&& 31)) &&& (1 : Int32)) = 0 then (
      ck (inb (C (4 + x5.toNatClampNeg) 4) 6) <|
      bd (f_X1_firstOut N C (4 + x5.toNatClampNeg) (C 36 (C (4 + x5.toNatClampNeg) 4).toNatClampNeg) x2) fun r8 =>
      bd (f_X1_leads C (4 + x5.toNatClampNeg)) fun r10 =>
      ck (inb r10 6) <|
      if (C 36 r10.toNatClampNeg) ≤ r8 then (
        lt_ (x5 + (1 : Int32)) fun v13 =>
        some (.inl (C, x4, v13)))
      else (
        bd (f_X1_leads C (4 + x5.toNatClampNeg)) fun r16 =>
        ck (inb r16 6) <|
        lt_ (wg_up C 36 r16.toNatClampNeg r8) fun C18 =>
        lt_ (x5 + (1 : Int32)) fun v20 =>
        some (.inl (C18, (1 : Int32), v20))))
    else (
      lt_ (x5 + (1 : Int32)) fun v4 =>
      some (.inl (C, x4, v4))))
def f_X7_passAll (N : Nat) (C : wg_C) (p2 : Int32) (p3 : Int32) : Option (Int32 × wg_C) :=
  bd3 (lp (fun o => f_X7_passAll_l6 N  p2 p3 o.1 o.2.1 o.2.2) N (C, (0 : Int32), (0 : Int32))) fun C22 v23 v24 =>
  ck (v23 = 0 ∨ v23 = 1) <|
  some (v23, C22)
abbrev G_X7_passAll (p : Program) (l : Launch) (e : Env) (s : State) (m : MethodId) (args : Array Value) (below : List Frame) (meth : Method) (c : Code) (E : wg_Ev) (ad : Nat → Nat) (S : wg_Sh) (r0 : Int32) (C0 : wg_C) (M0 : wg_M) (pc : Nat) (C : wg_C) (M : wg_M) (lv : List (Nat × Value)) (st : List Value) : Prop := wg_G p l e (wg_Rm 3 67) s m args below meth c (MQ below (wg_Qi E ad S r0 C0 M0) args s 0 0 (wg_A E)) 8 E ad S 0 0 pc C M lv st
set_option maxHeartbeats 4000000 in
set_option maxRecDepth 100000 in
theorem L_X7_passAll_l6 {p : Program} {l : Launch} {e : Env} {s : State} {m : MethodId} {args : Array Value} {below : List Frame} {meth : Method} {c : Code} {E : wg_Ev} {ad : Nat → Nat} {S : wg_Sh} (X : wg_X p s m args meth c cX7_passAll 8 RX7 E) (hr : meth.sig.returnType = (some .boolean)) (hS : wg_SC S) (r0 : Int32) (D0 : wg_C) (M : wg_M) (N : Nat)   (x2 : Int32) (x3 : Int32)  : ∀ (n : Nat) (C : wg_C) (x4 : Int32) (x5 : Int32) (o : (wg_C × Int32 × Int32)), lp (fun o => f_X7_passAll_l6 N  x2 x3 o.1 o.2.1 o.2.2) n (C, x4, x5) = some o → (∀ (Dy : wg_C) (y4 : Int32) (y5 : Int32), o = (Dy, y4, y5) → G_X7_passAll p l e s m args below meth c E ad S r0 D0 M 87 Dy M [(0, .ref (ad 35)), (1, .ref (ad 1)), (2, .int x2), (3, .int x3), (4, .int y4), (5, .int y5)] []) → G_X7_passAll p l e s m args below meth c E ad S r0 D0 M 6 C M [(0, .ref (ad 35)), (1, .ref (ad 1)), (2, .int x2), (3, .int x3), (4, .int x4), (5, .int x5)] [] := by
  intro n
  induction n with
  | zero => exact fun _ _ _ o h => (lp_zero h).elim
  | succ n ih =>
    intro C x4 x5 o h K
    obtain ⟨o1, hb, h2⟩ := lp_some h
    replace hb : f_X7_passAll_l6 N  x2 x3 C x4 x5 = some o1 := hb
    clear h
    have Kc : ∀ (Dy : wg_C) (y4 : Int32) (y5 : Int32), o1 = Sum.inl (Dy, y4, y5) → G_X7_passAll p l e s m args below meth c E ad S r0 D0 M 6 Dy M [(0, .ref (ad 35)), (1, .ref (ad 1)), (2, .int x2), (3, .int x3), (4, .int y4), (5, .int y5)] [] := fun Dy y4 y5 e1 => by
      subst e1
      exact ih Dy y4 y5 o h2 K
    have Ke : ∀ (Dy : wg_C) (y4 : Int32) (y5 : Int32), o1 = Sum.inr ((Dy, y4, y5)) → G_X7_passAll p l e s m args below meth c E ad S r0 D0 M 87 Dy M [(0, .ref (ad 35)), (1, .ref (ad 1)), (2, .int x2), (3, .int x3), (4, .int y4), (5, .int y5)] [] := fun Dy y4 y5 e1 => by
      subst e1
      exact K Dy y4 y5 (sm_inj (α := (wg_C × Int32 × Int32)) h2).symm
    clear ih K h2
    unfold f_X7_passAll_l6 at hb
    have h := hb
    clear hb
    refine wg_iload X 5 dX7_passAll_6 rfl ?_
    refine wg_aload_n X 1 dX7_passAll_8 rfl rfl ?_
    refine wg_getC X cl0 (SCi hS 1 0 rfl) 2 (by decide) dX7_passAll_9 k_148 rfl ?_
    refine wg_icmp_ge X 87 dX7_passAll_12 (by decide) (fun c1 => ?_) (fun c1 => ?_)
    · have h := if_t c1 h
      exact Ke C x4 x5 (sm_inj h).symm
    · have h := if_f c1 h
      refine wg_aload_n X 1 dX7_passAll_15 rfl rfl ?_
      refine wg_getR (b := 3) X cl0 (SCi hS 1 0 rfl) 1 (by decide) dX7_passAll_16 k_145 rfl (SCr hS 1 1 3 rfl) ?_
      refine wg_iload X 5 dX7_passAll_19 rfl ?_
      obtain ⟨z2, h⟩ := ck_some h
      refine wg_aalS13 (b := 4 + x5.toNatClampNeg) X (SCi hS 3 13 rfl) (SCl hS 3 8 rfl) z2 (SCp hS (inb_lt z2)).1 dX7_passAll_21 ?_
      refine wg_astore (lv' := [(6, .ref (ad (4 + x5.toNatClampNeg))), (0, .ref (ad 35)), (1, .ref (ad 1)), (2, .int x2), (3, .int x3), (4, .int x4), (5, .int x5)]) X dX7_passAll_22 rfl (by decide) rfl ?_
      refine wg_iload_n X 4 dX7_passAll_24 rfl rfl ?_
      refine wg_iload X 6 dX7_passAll_25 rfl ?_
      refine wg_ishr X dX7_passAll_27 ?_
      refine wg_iconst (v := 1) X dX7_passAll_28 (by decide) ?_
      refine wg_iand X dX7_passAll_29 ?_
      refine wg_if_ne X 81 dX7_passAll_30 (by decide) (fun c3 => ?_) (fun c3 => ?_)
      · have h := if_f c3 h
        obtain ⟨v4, e5, h⟩ := lt_some h
        refine wg_iinc (lv' := [(5, .int v4), (6, .ref (ad (4 + x5.toNatClampNeg))), (0, .ref (ad 35)), (1, .ref (ad 1)), (2, .int x2), (3, .int x3), (4, .int x4)]) X 6 dX7_passAll_81 rfl e5 (by decide) rfl ?_
        refine wg_goto X 6 dX7_passAll_84 (by decide) ?_
        refine wg_pick [2, 3, 4, 5, 6, 0] (lv' := [(0, .ref (ad 35)), (1, .ref (ad 1)), (2, .int x2), (3, .int x3), (4, .int x4), (5, .int v4)]) rfl ?_
        exact Kc C x4 v4 (sm_inj h).symm
      · have h := if_t c3 h
        refine wg_aload X 0 dX7_passAll_33 rfl ?_
        refine wg_aload_n X 1 dX7_passAll_35 rfl rfl ?_
        refine wg_getR (b := 36) X cl7 (SCi hS 35 7 rfl) 0 (by decide) dX7_passAll_36 k_248 rfl (SCr hS 35 0 36 rfl) ?_
        refine wg_aload X 0 dX7_passAll_39 rfl ?_
        refine wg_getC X cl1 (SCp hS (inb_lt z2)).2.1 4 (by decide) dX7_passAll_41 k_123 rfl ?_
        obtain ⟨z6, h⟩ := ck_some h
        refine wg_iald X (SCi hS 36 10 rfl) (SCl hS 36 6 rfl) z6 dX7_passAll_44 ?_
        refine wg_iload_n X 3 dX7_passAll_45 rfl rfl ?_
        obtain ⟨r8, h7, h⟩ := bd_some h
        refine wg_callVi (As := [.int (C 36 (C (4 + x5.toNatClampNeg) 4).toNatClampNeg), .int x2]) (rest := []) X (c_X1_firstOut l E ad S hS N C M (4 + x5.toNatClampNeg) (C 36 (C (4 + x5.toNatClampNeg) 4).toNatClampNeg) x2 ((SCp hS (inb_lt z2)).2.1) h7) T_yX1_firstOut k_662 cl1 ((SCp hS (inb_lt z2)).2.1) dX7_passAll_46 rfl rfl (Nat.le_of_ble_eq_true rfl) ⟨Nat.le_of_ble_eq_true rfl, Nat.le_of_ble_eq_true rfl⟩ ⟨Nat.zero_le _, Nat.zero_le _⟩ ?_
        refine wg_istore (lv' := [(7, .int r8), (6, .ref (ad (4 + x5.toNatClampNeg))), (0, .ref (ad 35)), (1, .ref (ad 1)), (2, .int x2), (3, .int x3), (4, .int x4), (5, .int x5)]) X dX7_passAll_49 rfl (by decide) rfl ?_
        refine wg_iload X 0 dX7_passAll_51 rfl ?_
        refine wg_aload_n X 2 dX7_passAll_53 rfl rfl ?_
        refine wg_getR (b := 36) X cl7 (SCi hS 35 7 rfl) 0 (by decide) dX7_passAll_54 k_248 rfl (SCr hS 35 0 36 rfl) ?_
        refine wg_aload X 1 dX7_passAll_57 rfl ?_
        obtain ⟨r10, h9, h⟩ := bd_some h
        refine wg_callVi (As := []) (rest := [.ref (ad 36), .int r8]) X (c_X1_leads l E ad S hS C M (4 + x5.toNatClampNeg) ((SCp hS (inb_lt z2)).2.1) h9) T_yX1_leads k_643 cl1 ((SCp hS (inb_lt z2)).2.1) dX7_passAll_59 rfl rfl (Nat.le_of_ble_eq_true rfl) ⟨Nat.le_of_ble_eq_true rfl, Nat.le_of_ble_eq_true rfl⟩ ⟨Nat.zero_le _, Nat.zero_le _⟩ ?_
        obtain ⟨z11, h⟩ := ck_some h
        refine wg_iald X (SCi hS 36 10 rfl) (SCl hS 36 6 rfl) z11 dX7_passAll_62 ?_
        refine wg_icmp_ge X 81 dX7_passAll_63 (by decide) (fun c12 => ?_) (fun c12 => ?_)
        · have h := if_t c12 h
          obtain ⟨v13, e14, h⟩ := lt_some h
          refine wg_iinc (lv' := [(5, .int v13), (7, .int r8), (6, .ref (ad (4 + x5.toNatClampNeg))), (0, .ref (ad 35)), (1, .ref (ad 1)), (2, .int x2), (3, .int x3), (4, .int x4)]) X 7 dX7_passAll_81 rfl e14 (by decide) rfl ?_
          refine wg_goto X 6 dX7_passAll_84 (by decide) ?_
          refine wg_pick [3, 4, 5, 6, 7, 0] (lv' := [(0, .ref (ad 35)), (1, .ref (ad 1)), (2, .int x2), (3, .int x3), (4, .int x4), (5, .int v13)]) rfl ?_
          exact Kc C x4 v13 (sm_inj h).symm
        · have h := if_f c12 h
          refine wg_aload_n X 2 dX7_passAll_66 rfl rfl ?_
          refine wg_getR (b := 36) X cl7 (SCi hS 35 7 rfl) 0 (by decide) dX7_passAll_67 k_248 rfl (SCr hS 35 0 36 rfl) ?_
          refine wg_aload X 1 dX7_passAll_70 rfl ?_
          obtain ⟨r16, h15, h⟩ := bd_some h
          refine wg_callVi (As := []) (rest := [.ref (ad 36)]) X (c_X1_leads l E ad S hS C M (4 + x5.toNatClampNeg) ((SCp hS (inb_lt z2)).2.1) h15) T_yX1_leads k_643 cl1 ((SCp hS (inb_lt z2)).2.1) dX7_passAll_72 rfl rfl (Nat.le_of_ble_eq_true rfl) ⟨Nat.le_of_ble_eq_true rfl, Nat.le_of_ble_eq_true rfl⟩ ⟨Nat.zero_le _, Nat.zero_le _⟩ ?_
          refine wg_iload X 0 dX7_passAll_75 rfl ?_
          obtain ⟨z17, h⟩ := ck_some h
          obtain ⟨C18, e19, h⟩ := lt_some h
          refine wg_iaste X (SCi hS 36 10 rfl) (SCl hS 36 6 rfl) z17 dX7_passAll_77 e19 ?_
          refine wg_iconst (v := 1) X dX7_passAll_78 (by decide) ?_
          refine wg_istore (lv' := [(4, .int (1 : Int32)), (7, .int r8), (6, .ref (ad (4 + x5.toNatClampNeg))), (0, .ref (ad 35)), (1, .ref (ad 1)), (2, .int x2), (3, .int x3), (5, .int x5)]) X dX7_passAll_79 rfl (by decide) rfl ?_
          obtain ⟨v20, e21, h⟩ := lt_some h
          refine wg_iinc (lv' := [(5, .int v20), (4, .int (1 : Int32)), (7, .int r8), (6, .ref (ad (4 + x5.toNatClampNeg))), (0, .ref (ad 35)), (1, .ref (ad 1)), (2, .int x2), (3, .int x3)]) X 7 dX7_passAll_81 rfl e21 (by decide) rfl ?_
          refine wg_goto X 6 dX7_passAll_84 (by decide) ?_
          refine wg_pick [4, 5, 6, 7, 1, 0] (lv' := [(0, .ref (ad 35)), (1, .ref (ad 1)), (2, .int x2), (3, .int x3), (4, .int (1 : Int32)), (5, .int v20)]) rfl ?_
          exact Kc C18 (1 : Int32) v20 (sm_inj h).symm
set_option maxHeartbeats 4000000 in
set_option maxRecDepth 100000 in
theorem c_X7_passAll (l : Launch) (E : wg_Ev) (ad : Nat → Nat) (S : wg_Sh) (hS : wg_SC S) (N : Nat) (C : wg_C) (M : wg_M) (p2 : Int32) (p3 : Int32)  {r0 : Int32} {D0 : wg_C} (h : f_X7_passAll N C p2 p3 = some (r0, D0)) : wg_Ci l yX7_passAll cX7_passAll 8 (some .boolean) 3 67 E ad S C M [.ref (ad 35), .ref (ad 1), .int p2, .int p3] r0 D0 M := by
  refine wg_start (own := RX7) (by decide +kernel) rfl (Nat.le_of_ble_eq_true rfl) ?_
  intro p e s m below meth c X hr hnm
  refine wg_lv (lv' := [(0, .ref (ad 35)), (1, .ref (ad 1)), (2, .int p2), (3, .int p3)]) rfl ?_
  unfold f_X7_passAll at h
  refine wg_iconst (v := 0) X dX7_passAll_0 (by decide) ?_
  refine wg_istore (lv' := [(4, .int (0 : Int32)), (0, .ref (ad 35)), (1, .ref (ad 1)), (2, .int p2), (3, .int p3)]) X dX7_passAll_1 rfl (by decide) rfl ?_
  refine wg_iconst (v := 0) X dX7_passAll_3 (by decide) ?_
  refine wg_istore (lv' := [(5, .int (0 : Int32)), (4, .int (0 : Int32)), (0, .ref (ad 35)), (1, .ref (ad 1)), (2, .int p2), (3, .int p3)]) X dX7_passAll_4 rfl (by decide) rfl ?_
  obtain ⟨o25, h26, h⟩ := bd3_o h
  refine wg_pick [2, 3, 4, 5, 1, 0] (lv' := [(0, .ref (ad 35)), (1, .ref (ad 1)), (2, .int p2), (3, .int p3), (4, .int (0 : Int32)), (5, .int (0 : Int32))]) rfl ?_
  refine L_X7_passAll_l6 X hr hS r0 D0 M N   p2 p3  N C (0 : Int32) (0 : Int32) o25 h26 (fun C22 v23 v24 e28 => ?_)
  · subst o25
    replace h := bd3_in h
    refine wg_iload X 4 dX7_passAll_87 rfl ?_
    obtain ⟨z29, h⟩ := ck_some h
    exact wg_zret X ⟨(Prod.mk.inj (sm_inj h)).1, (Prod.mk.inj (sm_inj h)).2, rfl⟩ hr z29 dX7_passAll_89
-- WindowsGive$Walk.reach(LWindowsGive$House;III)V (('c', 35), ('c', 1), 'i', 'i', 'i')
def f_X7_reach_l28 (N : Nat)  (x3 : Int32) (x4 : Int32) (C : wg_C) (x5 : Int32) (x6 : Int32) : Option ((wg_C × Int32 × Int32) ⊕ (wg_C × Int32 × Int32)) :=
  if (192 : Int32) < x6 then (
    some (.inr (C, x5, x6)))
  else (
    if x5 = 0 then (
      some (.inr (C, x5, x6)))
    else (
      bd2 (f_X7_passAll N C x3 x4) fun r9 C10 =>
      lt_ (x6 + (1 : Int32)) fun v11 =>
      some (.inl (C10, r9, v11))))
def f_X7_reach (N : Nat) (C : wg_C) (p2 : Int32) (p3 : Int32) (p4 : Int32) : Option wg_C :=
  bd (f_J7_fill_53178 N C 36 6 (32 : Int32)) fun C2 =>
  ck (inb (p2 / (32 : Int32)) 6) <|
  lt_ (wg_up C2 36 (p2 / (32 : Int32)).toNatClampNeg (p2 - p2 / (32 : Int32) * (32 : Int32))) fun C4 =>
  bd3 (lp (fun o => f_X7_reach_l28 N  p3 p4 o.1 o.2.1 o.2.2) N (C4, (1 : Int32), (0 : Int32))) fun C13 v14 v15 =>
  some C13
abbrev G_X7_reach (p : Program) (l : Launch) (e : Env) (s : State) (m : MethodId) (args : Array Value) (below : List Frame) (meth : Method) (c : Code) (E : wg_Ev) (ad : Nat → Nat) (S : wg_Sh) (C0 : wg_C) (M0 : wg_M) (pc : Nat) (C : wg_C) (M : wg_M) (lv : List (Nat × Value)) (st : List Value) : Prop := wg_G p l e (wg_Rm 4 94) s m args below meth c (MQ below (wg_Qv E ad S C0 M0) args s 0 0 (wg_A E)) 7 E ad S 0 0 pc C M lv st
set_option maxHeartbeats 4000000 in
set_option maxRecDepth 100000 in
theorem L_X7_reach_l28 {p : Program} {l : Launch} {e : Env} {s : State} {m : MethodId} {args : Array Value} {below : List Frame} {meth : Method} {c : Code} {E : wg_Ev} {ad : Nat → Nat} {S : wg_Sh} (X : wg_X p s m args meth c cX7_reach 7 RX7 E) (hr : meth.sig.returnType = none) (hS : wg_SC S) (D0 : wg_C) (M : wg_M) (N : Nat)   (x3 : Int32) (x4 : Int32)  : ∀ (n : Nat) (C : wg_C) (x5 : Int32) (x6 : Int32) (o : (wg_C × Int32 × Int32)), lp (fun o => f_X7_reach_l28 N  x3 x4 o.1 o.2.1 o.2.2) n (C, x5, x6) = some o → (∀ (Dy : wg_C) (y5 : Int32) (y6 : Int32), o = (Dy, y5, y6) → G_X7_reach p l e s m args below meth c E ad S D0 M 57 Dy M [(0, .ref (ad 35)), (1, .ref (ad 1)), (3, .int x3), (4, .int x4), (5, .int y5), (6, .int y6)] []) → G_X7_reach p l e s m args below meth c E ad S D0 M 28 C M [(0, .ref (ad 35)), (1, .ref (ad 1)), (3, .int x3), (4, .int x4), (5, .int x5), (6, .int x6)] [] := by
  intro n
  induction n with
  | zero => exact fun _ _ _ o h => (lp_zero h).elim
  | succ n ih =>
    intro C x5 x6 o h K
    obtain ⟨o1, hb, h2⟩ := lp_some h
    replace hb : f_X7_reach_l28 N  x3 x4 C x5 x6 = some o1 := hb
    clear h
    have Kc : ∀ (Dy : wg_C) (y5 : Int32) (y6 : Int32), o1 = Sum.inl (Dy, y5, y6) → G_X7_reach p l e s m args below meth c E ad S D0 M 28 Dy M [(0, .ref (ad 35)), (1, .ref (ad 1)), (3, .int x3), (4, .int x4), (5, .int y5), (6, .int y6)] [] := fun Dy y5 y6 e1 => by
      subst e1
      exact ih Dy y5 y6 o h2 K
    have Ke : ∀ (Dy : wg_C) (y5 : Int32) (y6 : Int32), o1 = Sum.inr ((Dy, y5, y6)) → G_X7_reach p l e s m args below meth c E ad S D0 M 57 Dy M [(0, .ref (ad 35)), (1, .ref (ad 1)), (3, .int x3), (4, .int x4), (5, .int y5), (6, .int y6)] [] := fun Dy y5 y6 e1 => by
      subst e1
      exact K Dy y5 y6 (sm_inj (α := (wg_C × Int32 × Int32)) h2).symm
    clear ih K h2
    unfold f_X7_reach_l28 at hb
    have h := hb
    clear hb
    refine wg_iload X 5 dX7_reach_28 rfl ?_
    refine wg_sipush (v := 192) X dX7_reach_30 (by decide) ?_
    refine wg_icmp_gt X 57 dX7_reach_33 (by decide) (fun c6 => ?_) (fun c6 => ?_)
    · have h := if_t c6 h
      exact Ke C x5 x6 (sm_inj h).symm
    · have h := if_f c6 h
      refine wg_iload X 4 dX7_reach_36 rfl ?_
      refine wg_if_eq X 57 dX7_reach_38 (by decide) (fun c7 => ?_) (fun c7 => ?_)
      · have h := if_t c7 h
        exact Ke C x5 x6 (sm_inj h).symm
      · have h := if_f c7 h
        refine wg_aload_n X 0 dX7_reach_41 rfl rfl ?_
        refine wg_aload_n X 1 dX7_reach_42 rfl rfl ?_
        refine wg_iload_n X 2 dX7_reach_43 rfl rfl ?_
        refine wg_iload X 3 dX7_reach_44 rfl ?_
        obtain ⟨r9, C10, h8, h⟩ := bd2_some h
        refine wg_callVi (As := [.ref (ad 1), .int x3, .int x4]) (rest := []) X (c_X7_passAll l E ad S hS N C M x3 x4  h8) T_yX7_passAll k_658 cl7 (SCi hS 35 7 rfl) dX7_reach_46 rfl rfl (Nat.le_of_ble_eq_true rfl) ⟨Nat.le_of_ble_eq_true rfl, Nat.le_of_ble_eq_true rfl⟩ ⟨Nat.zero_le _, Nat.zero_le _⟩ ?_
        refine wg_istore (lv' := [(5, .int r9), (0, .ref (ad 35)), (1, .ref (ad 1)), (3, .int x3), (4, .int x4), (6, .int x6)]) X dX7_reach_49 rfl (by decide) rfl ?_
        obtain ⟨v11, e12, h⟩ := lt_some h
        refine wg_iinc (lv' := [(6, .int v11), (5, .int r9), (0, .ref (ad 35)), (1, .ref (ad 1)), (3, .int x3), (4, .int x4)]) X 5 dX7_reach_51 rfl e12 (by decide) rfl ?_
        refine wg_goto X 28 dX7_reach_54 (by decide) ?_
        refine wg_pick [2, 3, 4, 5, 1, 0] (lv' := [(0, .ref (ad 35)), (1, .ref (ad 1)), (3, .int x3), (4, .int x4), (5, .int r9), (6, .int v11)]) rfl ?_
        exact Kc C10 r9 v11 (sm_inj h).symm
set_option maxHeartbeats 4000000 in
set_option maxRecDepth 100000 in
theorem c_X7_reach (l : Launch) (E : wg_Ev) (ad : Nat → Nat) (S : wg_Sh) (hS : wg_SC S) (N : Nat) (C : wg_C) (M : wg_M) (p2 : Int32) (p3 : Int32) (p4 : Int32)  {D0 : wg_C} (h : f_X7_reach N C p2 p3 p4 = some D0) : wg_Cv l yX7_reach cX7_reach 7 none 4 94 E ad S C M [.ref (ad 35), .ref (ad 1), .int p2, .int p3, .int p4] D0 M := by
  refine wg_start (own := RX7) (by decide +kernel) rfl (Nat.le_of_ble_eq_true rfl) ?_
  intro p e s m below meth c X hr hnm
  refine wg_lv (lv' := [(0, .ref (ad 35)), (1, .ref (ad 1)), (2, .int p2), (3, .int p3), (4, .int p4)]) rfl ?_
  unfold f_X7_reach at h
  refine wg_aload_n X 0 dX7_reach_0 rfl rfl ?_
  refine wg_getR (b := 36) X cl7 (SCi hS 35 7 rfl) 0 (by decide) dX7_reach_1 k_248 rfl (SCr hS 35 0 36 rfl) ?_
  refine wg_bipush (v := 32) X dX7_reach_4 (by decide) ?_
  obtain ⟨C2, h1, h⟩ := bd_some h
  refine wg_callSv (As := [.ref (ad 36), .int (32 : Int32)]) (rest := []) X (c_J7_fill_53178 l E ad S hS N C M 36 6 (32 : Int32) ⟨(SCi hS 36 10 rfl), (SCl hS 36 6 rfl)⟩ h1) T_yJ7_fill_53178 k_595 dX7_reach_6 rfl rfl (Nat.le_of_ble_eq_true rfl) ⟨Nat.le_of_ble_eq_true rfl, Nat.le_of_ble_eq_true rfl⟩ ⟨Nat.zero_le _, Nat.zero_le _⟩ ?_
  refine wg_aload_n X 0 dX7_reach_9 rfl rfl ?_
  refine wg_getR (b := 36) X cl7 (SCi hS 35 7 rfl) 0 (by decide) dX7_reach_10 k_248 rfl (SCr hS 35 0 36 rfl) ?_
  refine wg_iload_n X 2 dX7_reach_13 rfl rfl ?_
  refine wg_bipush (v := 32) X dX7_reach_14 (by decide) ?_
  refine wg_idiv X dX7_reach_16 (by decide) ?_
  refine wg_iload_n X 2 dX7_reach_17 rfl rfl ?_
  refine wg_bipush (v := 32) X dX7_reach_18 (by decide) ?_
  refine wg_irem X dX7_reach_20 (by decide) ?_
  obtain ⟨z3, h⟩ := ck_some h
  obtain ⟨C4, e5, h⟩ := lt_some h
  refine wg_iaste X (SCi hS 36 10 rfl) (SCl hS 36 6 rfl) z3 dX7_reach_21 e5 ?_
  refine wg_iconst (v := 1) X dX7_reach_22 (by decide) ?_
  refine wg_istore (lv' := [(5, .int (1 : Int32)), (0, .ref (ad 35)), (1, .ref (ad 1)), (2, .int p2), (3, .int p3), (4, .int p4)]) X dX7_reach_23 rfl (by decide) rfl ?_
  refine wg_iconst (v := 0) X dX7_reach_25 (by decide) ?_
  refine wg_istore (lv' := [(6, .int (0 : Int32)), (5, .int (1 : Int32)), (0, .ref (ad 35)), (1, .ref (ad 1)), (2, .int p2), (3, .int p3), (4, .int p4)]) X dX7_reach_26 rfl (by decide) rfl ?_
  obtain ⟨o16, h17, h⟩ := bd3_o h
  refine wg_pick [2, 3, 5, 6, 1, 0] (lv' := [(0, .ref (ad 35)), (1, .ref (ad 1)), (3, .int p3), (4, .int p4), (5, .int (1 : Int32)), (6, .int (0 : Int32))]) rfl ?_
  refine L_X7_reach_l28 X hr hS D0 M N   p3 p4  N C4 (1 : Int32) (0 : Int32) o16 h17 (fun C13 v14 v15 e19 => ?_)
  · subst o16
    replace h := bd3_in h
    exact wg_vret X ⟨(sm_inj h), rfl⟩ hr dX7_reach_57
-- WindowsGive.earliest(III)I (('c', 0), 'i', 'i', 'i')
def f_X8_earliest (N : Nat) (C : wg_C) (p1 : Int32) (p2 : Int32) (p3 : Int32) : Option (Int32 × wg_C) :=
  bd (f_X8_isSpot p1) fun r2 =>
  if r2 = 0 then (
    some ((-2 : Int32), C))
  else (
    bd (f_X8_isRoom p2) fun r5 =>
    if r5 = 0 then (
      some ((-2 : Int32), C))
    else (
      bd (f_X8_isSort p3) fun r8 =>
      if r8 = 0 then (
        some ((-2 : Int32), C))
      else (
        bd (f_X7_reach N C p1 p3 (0 : Int32)) fun C11 =>
        ck (inb p2 6) <|
        if (32 : Int32) ≤ (C11 36 p2.toNatClampNeg) then (
          some ((-1 : Int32), C11))
        else (
          ck (inb p2 6) <|
          some ((C11 36 p2.toNatClampNeg), C11)))))
set_option maxHeartbeats 4000000 in
set_option maxRecDepth 100000 in
theorem c_X8_earliest (l : Launch) (E : wg_Ev) (ad : Nat → Nat) (S : wg_Sh) (hS : wg_SC S) (N : Nat) (C : wg_C) (M : wg_M) (p1 : Int32) (p2 : Int32) (p3 : Int32)  {r0 : Int32} {D0 : wg_C} (h : f_X8_earliest N C p1 p2 p3 = some (r0, D0)) : wg_Ci l yX8_earliest cX8_earliest 4 (some .int) 5 120 E ad S C M [.ref (ad 0), .int p1, .int p2, .int p3] r0 D0 M := by
  refine wg_start (own := RX8) (by decide +kernel) rfl (Nat.le_of_ble_eq_true rfl) ?_
  intro p e s m below meth c X hr hnm
  refine wg_lv (lv' := [(0, .ref (ad 0)), (1, .int p1), (2, .int p2), (3, .int p3)]) rfl ?_
  unfold f_X8_earliest at h
  refine wg_iload_n X 1 dX8_earliest_0 rfl rfl ?_
  obtain ⟨r2, h1, h⟩ := bd_some h
  refine wg_callSi (As := [.int p1]) (rest := []) X (c_X8_isSpot l E ad S C M p1  h1) T_yX8_isSpot k_587 dX8_earliest_1 rfl rfl (Nat.le_of_ble_eq_true rfl) ⟨Nat.le_of_ble_eq_true rfl, Nat.le_of_ble_eq_true rfl⟩ ⟨Nat.zero_le _, Nat.zero_le _⟩ ?_
  refine wg_if_eq X 21 dX8_earliest_4 (by decide) (fun c3 => ?_) (fun c3 => ?_)
  · have h := if_t c3 h
    refine wg_bipush (v := -2) X dX8_earliest_21 (by decide) ?_
    exact wg_iret X ⟨(Prod.mk.inj (sm_inj h)).1, (Prod.mk.inj (sm_inj h)).2, rfl⟩ hr dX8_earliest_23
  · have h := if_f c3 h
    refine wg_iload_n X 2 dX8_earliest_7 rfl rfl ?_
    obtain ⟨r5, h4, h⟩ := bd_some h
    refine wg_callSi (As := [.int p2]) (rest := []) X (c_X8_isRoom l E ad S C M p2  h4) T_yX8_isRoom k_535 dX8_earliest_8 rfl rfl (Nat.le_of_ble_eq_true rfl) ⟨Nat.le_of_ble_eq_true rfl, Nat.le_of_ble_eq_true rfl⟩ ⟨Nat.zero_le _, Nat.zero_le _⟩ ?_
    refine wg_if_eq X 21 dX8_earliest_11 (by decide) (fun c6 => ?_) (fun c6 => ?_)
    · have h := if_t c6 h
      refine wg_bipush (v := -2) X dX8_earliest_21 (by decide) ?_
      exact wg_iret X ⟨(Prod.mk.inj (sm_inj h)).1, (Prod.mk.inj (sm_inj h)).2, rfl⟩ hr dX8_earliest_23
    · have h := if_f c6 h
      refine wg_iload_n X 3 dX8_earliest_14 rfl rfl ?_
      obtain ⟨r8, h7, h⟩ := bd_some h
      refine wg_callSi (As := [.int p3]) (rest := []) X (c_X8_isSort l E ad S C M p3  h7) T_yX8_isSort k_554 dX8_earliest_15 rfl rfl (Nat.le_of_ble_eq_true rfl) ⟨Nat.le_of_ble_eq_true rfl, Nat.le_of_ble_eq_true rfl⟩ ⟨Nat.zero_le _, Nat.zero_le _⟩ ?_
      refine wg_if_ne X 24 dX8_earliest_18 (by decide) (fun c9 => ?_) (fun c9 => ?_)
      · have h := if_f c9 h
        refine wg_aload_n X 0 dX8_earliest_24 rfl rfl ?_
        refine wg_getR (b := 35) X cl8 (SCi hS 0 8 rfl) 6 (by decide) dX8_earliest_25 k_478 rfl (SCr hS 0 6 35 rfl) ?_
        refine wg_aload_n X 0 dX8_earliest_28 rfl rfl ?_
        refine wg_getR (b := 1) X cl8 (SCi hS 0 8 rfl) 0 (by decide) dX8_earliest_29 k_472 rfl (SCr hS 0 0 1 rfl) ?_
        refine wg_iload_n X 1 dX8_earliest_32 rfl rfl ?_
        refine wg_iload_n X 3 dX8_earliest_33 rfl rfl ?_
        refine wg_iconst (v := 0) X dX8_earliest_34 (by decide) ?_
        obtain ⟨C11, h10, h⟩ := bd_some h
        refine wg_callVv (As := [.ref (ad 1), .int p1, .int p3, .int (0 : Int32)]) (rest := []) X (c_X7_reach l E ad S hS N C M p1 p3 (0 : Int32)  h10) T_yX7_reach k_654 cl7 (SCi hS 35 7 rfl) dX8_earliest_35 rfl rfl (Nat.le_of_ble_eq_true rfl) ⟨Nat.le_of_ble_eq_true rfl, Nat.le_of_ble_eq_true rfl⟩ ⟨Nat.zero_le _, Nat.zero_le _⟩ ?_
        refine wg_aload_n X 0 dX8_earliest_38 rfl rfl ?_
        refine wg_getR (b := 35) X cl8 (SCi hS 0 8 rfl) 6 (by decide) dX8_earliest_39 k_478 rfl (SCr hS 0 6 35 rfl) ?_
        refine wg_getR (b := 36) X cl7 (SCi hS 35 7 rfl) 0 (by decide) dX8_earliest_42 k_249 rfl (SCr hS 35 0 36 rfl) ?_
        refine wg_iload_n X 2 dX8_earliest_45 rfl rfl ?_
        obtain ⟨z12, h⟩ := ck_some h
        refine wg_iald X (SCi hS 36 10 rfl) (SCl hS 36 6 rfl) z12 dX8_earliest_46 ?_
        refine wg_bipush (v := 32) X dX8_earliest_47 (by decide) ?_
        refine wg_icmp_ge X 64 dX8_earliest_49 (by decide) (fun c13 => ?_) (fun c13 => ?_)
        · have h := if_t c13 h
          refine wg_iconst (v := -1) X dX8_earliest_64 (by decide) ?_
          exact wg_iret X ⟨(Prod.mk.inj (sm_inj h)).1, (Prod.mk.inj (sm_inj h)).2, rfl⟩ hr dX8_earliest_65
        · have h := if_f c13 h
          refine wg_aload_n X 0 dX8_earliest_52 rfl rfl ?_
          refine wg_getR (b := 35) X cl8 (SCi hS 0 8 rfl) 6 (by decide) dX8_earliest_53 k_478 rfl (SCr hS 0 6 35 rfl) ?_
          refine wg_getR (b := 36) X cl7 (SCi hS 35 7 rfl) 0 (by decide) dX8_earliest_56 k_249 rfl (SCr hS 35 0 36 rfl) ?_
          refine wg_iload_n X 2 dX8_earliest_59 rfl rfl ?_
          obtain ⟨z14, h⟩ := ck_some h
          refine wg_iald X (SCi hS 36 10 rfl) (SCl hS 36 6 rfl) z14 dX8_earliest_60 ?_
          refine wg_goto X 65 dX8_earliest_61 (by decide) ?_
          exact wg_iret X ⟨(Prod.mk.inj (sm_inj h)).1, (Prod.mk.inj (sm_inj h)).2, rfl⟩ hr dX8_earliest_65
      · have h := if_t c9 h
        refine wg_bipush (v := -2) X dX8_earliest_21 (by decide) ?_
        exact wg_iret X ⟨(Prod.mk.inj (sm_inj h)).1, (Prod.mk.inj (sm_inj h)).2, rfl⟩ hr dX8_earliest_23
-- WindowsGive$Walk.fewestBackTo(LWindowsGive$House;II)I (('c', 35), ('c', 1), 'i', 'i')
def f_X7_fewestBackTo_l62 (N : Nat) (C : wg_C)  (x2 : Int32) (x3 : Int32) (x5 : Int32) (x6 : Nat) (x4 : Int32) (x7 : Int32) : Option ((Int32 × Int32) ⊕ (Int32 × Int32)) :=
  if (32 : Int32) ≤ x7 then (
    some (.inr (x4, x7)))
  else (
    ck (inb (((C x6 4) * (32 : Int32)) + x7) 192) <|
    lt_ (C 37 (((C x6 4) * (32 : Int32)) + x7).toNatClampNeg) fun v6 =>
    if (1000000000 : Int32) ≤ v6 then (
      lt_ (x7 + (1 : Int32)) fun v9 =>
      some (.inl (x4, v9)))
    else (
      bd (f_X1_passes C x6 x7 x3) fun r12 =>
      if r12 = 0 then (
        lt_ (x7 + (1 : Int32)) fun v14 =>
        some (.inl (x4, v14)))
      else (
        bd (f_X1_leads C x6) fun r17 =>
        bd (f_X1_on C x6 x7) fun r19 =>
        if ((r17 * (32 : Int32)) + r19) = x2 then (
          bd (f_J9_min_7cf53 x4 ((v6 / (1000 : Int32)) + (1 : Int32))) fun r24 =>
          lt_ (x7 + (1 : Int32)) fun v25 =>
          some (.inl (r24, v25)))
        else (
          lt_ (x7 + (1 : Int32)) fun v21 =>
          some (.inl (x4, v21))))))
def f_X7_fewestBackTo_l41 (N : Nat) (C : wg_C)  (x2 : Int32) (x3 : Int32) (x4 : Int32) (x5 : Int32) : Option ((Int32 × Int32) ⊕ (Int32 × Int32)) :=
  if (C 1 2) ≤ x5 then (
    some (.inr (x4, x5)))
  else (
    ck (inb x5 8) <|
    bd2 (lp (fun o => f_X7_fewestBackTo_l62 N C  x2 x3 x5 (4 + x5.toNatClampNeg) o.1 o.2) N (x4, (0 : Int32))) fun v27 v28 =>
    lt_ (x5 + (1 : Int32)) fun v33 =>
    some (.inl (v27, v33)))
def f_X7_fewestBackTo_j38 (N : Nat) (C : wg_C)  (x2 : Int32) (x3 : Int32) (x4 : Int32) : Option Int32 :=
  bd2 (lp (fun o => f_X7_fewestBackTo_l41 N C  x2 x3 o.1 o.2) N (x4, (0 : Int32))) fun v35 v36 =>
  some v35
def f_X7_fewestBackTo (N : Nat) (C : wg_C) (p2 : Int32) (p3 : Int32) : Option Int32 :=
  if (p2 - p2 / (32 : Int32) * (32 : Int32)) ≤ 0 then (
    f_X7_fewestBackTo_j38 N C  p2 p3 (1000000000 : Int32))
  else (
    ck (inb (p2 - (1 : Int32)) 192) <|
    if (1000000000 : Int32) ≤ (C 37 (p2 - (1 : Int32)).toNatClampNeg) then (
      f_X7_fewestBackTo_j38 N C  p2 p3 (1000000000 : Int32))
    else (
      ck (inb (p2 - (1 : Int32)) 192) <|
      lt_ ((C 37 (p2 - (1 : Int32)).toNatClampNeg) / (1000 : Int32)) fun v44 =>
      f_X7_fewestBackTo_j38 N C  p2 p3 v44))
abbrev G_X7_fewestBackTo (p : Program) (l : Launch) (e : Env) (s : State) (m : MethodId) (args : Array Value) (below : List Frame) (meth : Method) (c : Code) (E : wg_Ev) (ad : Nat → Nat) (S : wg_Sh) (r0 : Int32) (C0 : wg_C) (M0 : wg_M) (pc : Nat) (C : wg_C) (M : wg_M) (lv : List (Nat × Value)) (st : List Value) : Prop := wg_G p l e (wg_Rm 2 44) s m args below meth c (MQ below (wg_Qi E ad S r0 C0 M0) args s 0 0 (wg_A E)) 9 E ad S 0 0 pc C M lv st
set_option maxHeartbeats 4000000 in
set_option maxRecDepth 100000 in
theorem L_X7_fewestBackTo_l62 {p : Program} {l : Launch} {e : Env} {s : State} {m : MethodId} {args : Array Value} {below : List Frame} {meth : Method} {c : Code} {E : wg_Ev} {ad : Nat → Nat} {S : wg_Sh} (X : wg_X p s m args meth c cX7_fewestBackTo 9 RX7 E) (hr : meth.sig.returnType = (some .int)) (hS : wg_SC S) (r0 : Int32) (M : wg_M) (N : Nat)  (C : wg_C)  (x2 : Int32) (x3 : Int32) (x5 : Int32) (x6 : Nat) (hx6 : wg_id S x6 1) : ∀ (n : Nat) (x4 : Int32) (x7 : Int32) (o : (Int32 × Int32)), lp (fun o => f_X7_fewestBackTo_l62 N C  x2 x3 x5 x6 o.1 o.2) n (x4, x7) = some o → (∀ (y4 : Int32) (y7 : Int32), o = (y4, y7) → G_X7_fewestBackTo p l e s m args below meth c E ad S r0 C M 146 C M [(0, .ref (ad 35)), (1, .ref (ad 1)), (2, .int x2), (3, .int x3), (4, .int y4), (5, .int x5), (6, .ref (ad x6)), (7, .int y7)] []) → G_X7_fewestBackTo p l e s m args below meth c E ad S r0 C M 62 C M [(0, .ref (ad 35)), (1, .ref (ad 1)), (2, .int x2), (3, .int x3), (4, .int x4), (5, .int x5), (6, .ref (ad x6)), (7, .int x7)] [] := by
  intro n
  induction n with
  | zero => exact fun _ _ o h => (lp_zero h).elim
  | succ n ih =>
    intro x4 x7 o h K
    obtain ⟨o1, hb, h2⟩ := lp_some h
    replace hb : f_X7_fewestBackTo_l62 N C  x2 x3 x5 x6 x4 x7 = some o1 := hb
    clear h
    have Kc : ∀ (y4 : Int32) (y7 : Int32), o1 = Sum.inl (y4, y7) → G_X7_fewestBackTo p l e s m args below meth c E ad S r0 C M 62 C M [(0, .ref (ad 35)), (1, .ref (ad 1)), (2, .int x2), (3, .int x3), (4, .int y4), (5, .int x5), (6, .ref (ad x6)), (7, .int y7)] [] := fun y4 y7 e1 => by
      subst e1
      exact ih y4 y7 o h2 K
    have Ke : ∀ (y4 : Int32) (y7 : Int32), o1 = Sum.inr ((y4, y7)) → G_X7_fewestBackTo p l e s m args below meth c E ad S r0 C M 146 C M [(0, .ref (ad 35)), (1, .ref (ad 1)), (2, .int x2), (3, .int x3), (4, .int y4), (5, .int x5), (6, .ref (ad x6)), (7, .int y7)] [] := fun y4 y7 e1 => by
      subst e1
      exact K y4 y7 (sm_inj (α := (Int32 × Int32)) h2).symm
    clear ih K h2
    unfold f_X7_fewestBackTo_l62 at hb
    have h := hb
    clear hb
    refine wg_iload X 7 dX7_fewestBackTo_62 rfl ?_
    refine wg_bipush (v := 32) X dX7_fewestBackTo_64 (by decide) ?_
    refine wg_icmp_ge X 146 dX7_fewestBackTo_66 (by decide) (fun c4 => ?_) (fun c4 => ?_)
    · have h := if_t c4 h
      exact Ke x4 x7 (sm_inj h).symm
    · have h := if_f c4 h
      refine wg_aload_n X 0 dX7_fewestBackTo_69 rfl rfl ?_
      refine wg_getR (b := 37) X cl7 (SCi hS 35 7 rfl) 1 (by decide) dX7_fewestBackTo_70 k_250 rfl (SCr hS 35 1 37 rfl) ?_
      refine wg_aload X 6 dX7_fewestBackTo_73 rfl ?_
      refine wg_getC X cl1 hx6 4 (by decide) dX7_fewestBackTo_75 k_123 rfl ?_
      refine wg_bipush (v := 32) X dX7_fewestBackTo_78 (by decide) ?_
      refine wg_imul X dX7_fewestBackTo_80 ?_
      refine wg_iload X 7 dX7_fewestBackTo_81 rfl ?_
      refine wg_iadd X dX7_fewestBackTo_83 ?_
      obtain ⟨z5, h⟩ := ck_some h
      refine wg_iald X (SCi hS 37 10 rfl) (SCl hS 37 192 rfl) z5 dX7_fewestBackTo_84 ?_
      obtain ⟨v6, e7, h⟩ := lt_some h
      refine wg_istore (lv' := [(8, .int v6), (0, .ref (ad 35)), (1, .ref (ad 1)), (2, .int x2), (3, .int x3), (4, .int x4), (5, .int x5), (6, .ref (ad x6)), (7, .int x7)]) X dX7_fewestBackTo_85 e7 (by decide) rfl ?_
      refine wg_iload X 0 dX7_fewestBackTo_87 rfl ?_
      refine wg_ldc (v := 1000000000) X dX7_fewestBackTo_89 k_594 ?_
      refine wg_icmp_ge X 140 dX7_fewestBackTo_91 (by decide) (fun c8 => ?_) (fun c8 => ?_)
      · have h := if_t c8 h
        obtain ⟨v9, e10, h⟩ := lt_some h
        refine wg_iinc (lv' := [(7, .int v9), (8, .int v6), (0, .ref (ad 35)), (1, .ref (ad 1)), (2, .int x2), (3, .int x3), (4, .int x4), (5, .int x5), (6, .ref (ad x6))]) X 8 dX7_fewestBackTo_140 rfl e10 (by decide) rfl ?_
        refine wg_goto X 62 dX7_fewestBackTo_143 (by decide) ?_
        refine wg_pick [2, 3, 4, 5, 6, 7, 8, 0] (lv' := [(0, .ref (ad 35)), (1, .ref (ad 1)), (2, .int x2), (3, .int x3), (4, .int x4), (5, .int x5), (6, .ref (ad x6)), (7, .int v9)]) rfl ?_
        exact Kc x4 v9 (sm_inj h).symm
      · have h := if_f c8 h
        refine wg_aload X 7 dX7_fewestBackTo_94 rfl ?_
        refine wg_iload X 8 dX7_fewestBackTo_96 rfl ?_
        refine wg_iload_n X 4 dX7_fewestBackTo_98 rfl rfl ?_
        obtain ⟨r12, h11, h⟩ := bd_some h
        refine wg_callVi (As := [.int x7, .int x3]) (rest := []) X (c_X1_passes l E ad S hS C M x6 x7 x3 hx6 h11) T_yX1_passes k_610 cl1 hx6 dX7_fewestBackTo_99 rfl rfl (Nat.le_of_ble_eq_true rfl) ⟨Nat.le_of_ble_eq_true rfl, Nat.le_of_ble_eq_true rfl⟩ ⟨Nat.zero_le _, Nat.zero_le _⟩ ?_
        refine wg_if_eq X 140 dX7_fewestBackTo_102 (by decide) (fun c13 => ?_) (fun c13 => ?_)
        · have h := if_t c13 h
          obtain ⟨v14, e15, h⟩ := lt_some h
          refine wg_iinc (lv' := [(7, .int v14), (8, .int v6), (0, .ref (ad 35)), (1, .ref (ad 1)), (2, .int x2), (3, .int x3), (4, .int x4), (5, .int x5), (6, .ref (ad x6))]) X 8 dX7_fewestBackTo_140 rfl e15 (by decide) rfl ?_
          refine wg_goto X 62 dX7_fewestBackTo_143 (by decide) ?_
          refine wg_pick [2, 3, 4, 5, 6, 7, 8, 0] (lv' := [(0, .ref (ad 35)), (1, .ref (ad 1)), (2, .int x2), (3, .int x3), (4, .int x4), (5, .int x5), (6, .ref (ad x6)), (7, .int v14)]) rfl ?_
          exact Kc x4 v14 (sm_inj h).symm
        · have h := if_f c13 h
          refine wg_aload X 7 dX7_fewestBackTo_105 rfl ?_
          obtain ⟨r17, h16, h⟩ := bd_some h
          refine wg_callVi (As := []) (rest := []) X (c_X1_leads l E ad S hS C M x6 hx6 h16) T_yX1_leads k_643 cl1 hx6 dX7_fewestBackTo_107 rfl rfl (Nat.le_of_ble_eq_true rfl) ⟨Nat.le_of_ble_eq_true rfl, Nat.le_of_ble_eq_true rfl⟩ ⟨Nat.zero_le _, Nat.zero_le _⟩ ?_
          refine wg_bipush (v := 32) X dX7_fewestBackTo_110 (by decide) ?_
          refine wg_imul X dX7_fewestBackTo_112 ?_
          refine wg_aload X 7 dX7_fewestBackTo_113 rfl ?_
          refine wg_iload X 8 dX7_fewestBackTo_115 rfl ?_
          obtain ⟨r19, h18, h⟩ := bd_some h
          refine wg_callVi (As := [.int x7]) (rest := [.int (r17 * (32 : Int32))]) X (c_X1_on l E ad S hS C M x6 x7 hx6 h18) T_yX1_on k_644 cl1 hx6 dX7_fewestBackTo_117 rfl rfl (Nat.le_of_ble_eq_true rfl) ⟨Nat.le_of_ble_eq_true rfl, Nat.le_of_ble_eq_true rfl⟩ ⟨Nat.zero_le _, Nat.zero_le _⟩ ?_
          refine wg_iadd X dX7_fewestBackTo_120 ?_
          refine wg_iload_n X 3 dX7_fewestBackTo_121 rfl rfl ?_
          refine wg_icmp_ne X 140 dX7_fewestBackTo_122 (by decide) (fun c20 => ?_) (fun c20 => ?_)
          · have h := if_f c20 h
            obtain ⟨v21, e22, h⟩ := lt_some h
            refine wg_iinc (lv' := [(7, .int v21), (8, .int v6), (0, .ref (ad 35)), (1, .ref (ad 1)), (2, .int x2), (3, .int x3), (4, .int x4), (5, .int x5), (6, .ref (ad x6))]) X 8 dX7_fewestBackTo_140 rfl e22 (by decide) rfl ?_
            refine wg_goto X 62 dX7_fewestBackTo_143 (by decide) ?_
            refine wg_pick [2, 3, 4, 5, 6, 7, 8, 0] (lv' := [(0, .ref (ad 35)), (1, .ref (ad 1)), (2, .int x2), (3, .int x3), (4, .int x4), (5, .int x5), (6, .ref (ad x6)), (7, .int v21)]) rfl ?_
            exact Kc x4 v21 (sm_inj h).symm
          · have h := if_t c20 h
            refine wg_iload X 5 dX7_fewestBackTo_125 rfl ?_
            refine wg_iload X 0 dX7_fewestBackTo_127 rfl ?_
            refine wg_sipush (v := 1000) X dX7_fewestBackTo_129 (by decide) ?_
            refine wg_idiv X dX7_fewestBackTo_132 (by decide) ?_
            refine wg_iconst (v := 1) X dX7_fewestBackTo_133 (by decide) ?_
            refine wg_iadd X dX7_fewestBackTo_134 ?_
            obtain ⟨r24, h23, h⟩ := bd_some h
            refine wg_callSi (As := [.int x4, .int ((v6 / (1000 : Int32)) + (1 : Int32))]) (rest := []) X (c_J9_min_7cf53 l E ad S C M x4 ((v6 / (1000 : Int32)) + (1 : Int32))  h23) T_yJ9_min_7cf53 k_675 dX7_fewestBackTo_135 rfl rfl (Nat.le_of_ble_eq_true rfl) ⟨Nat.le_of_ble_eq_true rfl, Nat.le_of_ble_eq_true rfl⟩ ⟨Nat.zero_le _, Nat.zero_le _⟩ ?_
            refine wg_istore (lv' := [(4, .int r24), (8, .int v6), (0, .ref (ad 35)), (1, .ref (ad 1)), (2, .int x2), (3, .int x3), (5, .int x5), (6, .ref (ad x6)), (7, .int x7)]) X dX7_fewestBackTo_138 rfl (by decide) rfl ?_
            obtain ⟨v25, e26, h⟩ := lt_some h
            refine wg_iinc (lv' := [(7, .int v25), (4, .int r24), (8, .int v6), (0, .ref (ad 35)), (1, .ref (ad 1)), (2, .int x2), (3, .int x3), (5, .int x5), (6, .ref (ad x6))]) X 8 dX7_fewestBackTo_140 rfl e26 (by decide) rfl ?_
            refine wg_goto X 62 dX7_fewestBackTo_143 (by decide) ?_
            refine wg_pick [3, 4, 5, 6, 1, 7, 8, 0] (lv' := [(0, .ref (ad 35)), (1, .ref (ad 1)), (2, .int x2), (3, .int x3), (4, .int r24), (5, .int x5), (6, .ref (ad x6)), (7, .int v25)]) rfl ?_
            exact Kc r24 v25 (sm_inj h).symm
set_option maxHeartbeats 4000000 in
set_option maxRecDepth 100000 in
theorem L_X7_fewestBackTo_l41 {p : Program} {l : Launch} {e : Env} {s : State} {m : MethodId} {args : Array Value} {below : List Frame} {meth : Method} {c : Code} {E : wg_Ev} {ad : Nat → Nat} {S : wg_Sh} (X : wg_X p s m args meth c cX7_fewestBackTo 9 RX7 E) (hr : meth.sig.returnType = (some .int)) (hS : wg_SC S) (r0 : Int32) (M : wg_M) (N : Nat)  (C : wg_C)  (x2 : Int32) (x3 : Int32)  : ∀ (n : Nat) (x4 : Int32) (x5 : Int32) (o : (Int32 × Int32)), lp (fun o => f_X7_fewestBackTo_l41 N C  x2 x3 o.1 o.2) n (x4, x5) = some o → (∀ (y4 : Int32) (y5 : Int32), o = (y4, y5) → G_X7_fewestBackTo p l e s m args below meth c E ad S r0 C M 152 C M [(0, .ref (ad 35)), (1, .ref (ad 1)), (2, .int x2), (3, .int x3), (4, .int y4), (5, .int y5)] []) → G_X7_fewestBackTo p l e s m args below meth c E ad S r0 C M 41 C M [(0, .ref (ad 35)), (1, .ref (ad 1)), (2, .int x2), (3, .int x3), (4, .int x4), (5, .int x5)] [] := by
  intro n
  induction n with
  | zero => exact fun _ _ o h => (lp_zero h).elim
  | succ n ih =>
    intro x4 x5 o h K
    obtain ⟨o1, hb, h2⟩ := lp_some h
    replace hb : f_X7_fewestBackTo_l41 N C  x2 x3 x4 x5 = some o1 := hb
    clear h
    have Kc : ∀ (y4 : Int32) (y5 : Int32), o1 = Sum.inl (y4, y5) → G_X7_fewestBackTo p l e s m args below meth c E ad S r0 C M 41 C M [(0, .ref (ad 35)), (1, .ref (ad 1)), (2, .int x2), (3, .int x3), (4, .int y4), (5, .int y5)] [] := fun y4 y5 e1 => by
      subst e1
      exact ih y4 y5 o h2 K
    have Ke : ∀ (y4 : Int32) (y5 : Int32), o1 = Sum.inr ((y4, y5)) → G_X7_fewestBackTo p l e s m args below meth c E ad S r0 C M 152 C M [(0, .ref (ad 35)), (1, .ref (ad 1)), (2, .int x2), (3, .int x3), (4, .int y4), (5, .int y5)] [] := fun y4 y5 e1 => by
      subst e1
      exact K y4 y5 (sm_inj (α := (Int32 × Int32)) h2).symm
    clear ih K h2
    unfold f_X7_fewestBackTo_l41 at hb
    have h := hb
    clear hb
    refine wg_iload X 5 dX7_fewestBackTo_41 rfl ?_
    refine wg_aload_n X 1 dX7_fewestBackTo_43 rfl rfl ?_
    refine wg_getC X cl0 (SCi hS 1 0 rfl) 2 (by decide) dX7_fewestBackTo_44 k_148 rfl ?_
    refine wg_icmp_ge X 152 dX7_fewestBackTo_47 (by decide) (fun c2 => ?_) (fun c2 => ?_)
    · have h := if_t c2 h
      exact Ke x4 x5 (sm_inj h).symm
    · have h := if_f c2 h
      refine wg_aload_n X 1 dX7_fewestBackTo_50 rfl rfl ?_
      refine wg_getR (b := 3) X cl0 (SCi hS 1 0 rfl) 1 (by decide) dX7_fewestBackTo_51 k_145 rfl (SCr hS 1 1 3 rfl) ?_
      refine wg_iload X 5 dX7_fewestBackTo_54 rfl ?_
      obtain ⟨z3, h⟩ := ck_some h
      refine wg_aalS13 (b := 4 + x5.toNatClampNeg) X (SCi hS 3 13 rfl) (SCl hS 3 8 rfl) z3 (SCp hS (inb_lt z3)).1 dX7_fewestBackTo_56 ?_
      refine wg_astore (lv' := [(6, .ref (ad (4 + x5.toNatClampNeg))), (0, .ref (ad 35)), (1, .ref (ad 1)), (2, .int x2), (3, .int x3), (4, .int x4), (5, .int x5)]) X dX7_fewestBackTo_57 rfl (by decide) rfl ?_
      refine wg_iconst (v := 0) X dX7_fewestBackTo_59 (by decide) ?_
      refine wg_istore (lv' := [(7, .int (0 : Int32)), (6, .ref (ad (4 + x5.toNatClampNeg))), (0, .ref (ad 35)), (1, .ref (ad 1)), (2, .int x2), (3, .int x3), (4, .int x4), (5, .int x5)]) X dX7_fewestBackTo_60 rfl (by decide) rfl ?_
      obtain ⟨o29, h30, h⟩ := bd2_o h
      refine wg_pick [2, 3, 4, 5, 6, 7, 1, 0] (lv' := [(0, .ref (ad 35)), (1, .ref (ad 1)), (2, .int x2), (3, .int x3), (4, .int x4), (5, .int x5), (6, .ref (ad (4 + x5.toNatClampNeg))), (7, .int (0 : Int32))]) rfl ?_
      refine L_X7_fewestBackTo_l62 X hr hS r0 M N  C  x2 x3 x5 (4 + x5.toNatClampNeg) ((SCp hS (inb_lt z3)).2.1) N x4 (0 : Int32) o29 h30 (fun v27 v28 e32 => ?_)
      · subst o29
        replace h := bd2_in h
        obtain ⟨v33, e34, h⟩ := lt_some h
        refine wg_iinc (lv' := [(5, .int v33), (0, .ref (ad 35)), (1, .ref (ad 1)), (2, .int x2), (3, .int x3), (4, .int v27), (6, .ref (ad (4 + x5.toNatClampNeg))), (7, .int v28)]) X 5 dX7_fewestBackTo_146 rfl e34 (by decide) rfl ?_
        refine wg_goto X 41 dX7_fewestBackTo_149 (by decide) ?_
        refine wg_pick [1, 2, 3, 4, 5, 0] (lv' := [(0, .ref (ad 35)), (1, .ref (ad 1)), (2, .int x2), (3, .int x3), (4, .int v27), (5, .int v33)]) rfl ?_
        exact Kc v27 v33 (sm_inj h).symm
set_option maxHeartbeats 4000000 in
set_option maxRecDepth 100000 in
theorem J_X7_fewestBackTo_j38 {p : Program} {l : Launch} {e : Env} {s : State} {m : MethodId} {args : Array Value} {below : List Frame} {meth : Method} {c : Code} {E : wg_Ev} {ad : Nat → Nat} {S : wg_Sh} (X : wg_X p s m args meth c cX7_fewestBackTo 9 RX7 E) (hr : meth.sig.returnType = (some .int)) (hS : wg_SC S) (r0 : Int32) (M : wg_M) (N : Nat)  (C : wg_C)  (x2 : Int32) (x3 : Int32) (x4 : Int32)   (h : f_X7_fewestBackTo_j38 N C  x2 x3 x4 = some r0) : G_X7_fewestBackTo p l e s m args below meth c E ad S r0 C M 38 C M [(0, .ref (ad 35)), (1, .ref (ad 1)), (2, .int x2), (3, .int x3), (4, .int x4)] [] := by
  unfold f_X7_fewestBackTo_j38 at h
  refine wg_iconst (v := 0) X dX7_fewestBackTo_38 (by decide) ?_
  refine wg_istore (lv' := [(5, .int (0 : Int32)), (0, .ref (ad 35)), (1, .ref (ad 1)), (2, .int x2), (3, .int x3), (4, .int x4)]) X dX7_fewestBackTo_39 rfl (by decide) rfl ?_
  obtain ⟨o37, h38, h⟩ := bd2_o h
  refine wg_pick [1, 2, 3, 4, 5, 0] (lv' := [(0, .ref (ad 35)), (1, .ref (ad 1)), (2, .int x2), (3, .int x3), (4, .int x4), (5, .int (0 : Int32))]) rfl ?_
  refine L_X7_fewestBackTo_l41 X hr hS r0 M N  C  x2 x3  N x4 (0 : Int32) o37 h38 (fun v35 v36 e40 => ?_)
  · subst o37
    replace h := bd2_in h
    refine wg_iload X 4 dX7_fewestBackTo_152 rfl ?_
    exact wg_iret X ⟨(sm_inj h), rfl, rfl⟩ hr dX7_fewestBackTo_154
set_option maxHeartbeats 4000000 in
set_option maxRecDepth 100000 in
theorem c_X7_fewestBackTo (l : Launch) (E : wg_Ev) (ad : Nat → Nat) (S : wg_Sh) (hS : wg_SC S) (N : Nat) (C : wg_C) (M : wg_M) (p2 : Int32) (p3 : Int32)  {r0 : Int32} (h : f_X7_fewestBackTo N C p2 p3 = some r0) : wg_Ci l yX7_fewestBackTo cX7_fewestBackTo 9 (some .int) 2 44 E ad S C M [.ref (ad 35), .ref (ad 1), .int p2, .int p3] r0 C M := by
  refine wg_start (own := RX7) (by decide +kernel) rfl (Nat.le_of_ble_eq_true rfl) ?_
  intro p e s m below meth c X hr hnm
  refine wg_lv (lv' := [(0, .ref (ad 35)), (1, .ref (ad 1)), (2, .int p2), (3, .int p3)]) rfl ?_
  unfold f_X7_fewestBackTo at h
  refine wg_ldc (v := 1000000000) X dX7_fewestBackTo_0 k_594 ?_
  refine wg_istore (lv' := [(4, .int (1000000000 : Int32)), (0, .ref (ad 35)), (1, .ref (ad 1)), (2, .int p2), (3, .int p3)]) X dX7_fewestBackTo_2 rfl (by decide) rfl ?_
  refine wg_iload_n X 3 dX7_fewestBackTo_4 rfl rfl ?_
  refine wg_bipush (v := 32) X dX7_fewestBackTo_5 (by decide) ?_
  refine wg_irem X dX7_fewestBackTo_7 (by decide) ?_
  refine wg_if_le X 38 dX7_fewestBackTo_8 (by decide) (fun c1 => ?_) (fun c1 => ?_)
  · have h := if_t c1 h
    refine wg_pick [1, 2, 3, 4, 0] (lv' := [(0, .ref (ad 35)), (1, .ref (ad 1)), (2, .int p2), (3, .int p3), (4, .int (1000000000 : Int32))]) rfl ?_
    exact J_X7_fewestBackTo_j38 X hr hS r0 M N  C  p2 p3 (1000000000 : Int32)   h
  · have h := if_f c1 h
    refine wg_aload_n X 1 dX7_fewestBackTo_11 rfl rfl ?_
    refine wg_getR (b := 37) X cl7 (SCi hS 35 7 rfl) 1 (by decide) dX7_fewestBackTo_12 k_250 rfl (SCr hS 35 1 37 rfl) ?_
    refine wg_iload_n X 3 dX7_fewestBackTo_15 rfl rfl ?_
    refine wg_iconst (v := 1) X dX7_fewestBackTo_16 (by decide) ?_
    refine wg_isub X dX7_fewestBackTo_17 ?_
    obtain ⟨z41, h⟩ := ck_some h
    refine wg_iald X (SCi hS 37 10 rfl) (SCl hS 37 192 rfl) z41 dX7_fewestBackTo_18 ?_
    refine wg_ldc (v := 1000000000) X dX7_fewestBackTo_19 k_594 ?_
    refine wg_icmp_ge X 38 dX7_fewestBackTo_21 (by decide) (fun c42 => ?_) (fun c42 => ?_)
    · have h := if_t c42 h
      refine wg_pick [1, 2, 3, 4, 0] (lv' := [(0, .ref (ad 35)), (1, .ref (ad 1)), (2, .int p2), (3, .int p3), (4, .int (1000000000 : Int32))]) rfl ?_
      exact J_X7_fewestBackTo_j38 X hr hS r0 M N  C  p2 p3 (1000000000 : Int32)   h
    · have h := if_f c42 h
      refine wg_aload_n X 1 dX7_fewestBackTo_24 rfl rfl ?_
      refine wg_getR (b := 37) X cl7 (SCi hS 35 7 rfl) 1 (by decide) dX7_fewestBackTo_25 k_250 rfl (SCr hS 35 1 37 rfl) ?_
      refine wg_iload_n X 3 dX7_fewestBackTo_28 rfl rfl ?_
      refine wg_iconst (v := 1) X dX7_fewestBackTo_29 (by decide) ?_
      refine wg_isub X dX7_fewestBackTo_30 ?_
      obtain ⟨z43, h⟩ := ck_some h
      refine wg_iald X (SCi hS 37 10 rfl) (SCl hS 37 192 rfl) z43 dX7_fewestBackTo_31 ?_
      refine wg_sipush (v := 1000) X dX7_fewestBackTo_32 (by decide) ?_
      refine wg_idiv X dX7_fewestBackTo_35 (by decide) ?_
      obtain ⟨v44, e45, h⟩ := lt_some h
      refine wg_istore (lv' := [(4, .int v44), (0, .ref (ad 35)), (1, .ref (ad 1)), (2, .int p2), (3, .int p3)]) X dX7_fewestBackTo_36 e45 (by decide) rfl ?_
      refine wg_pick [1, 2, 3, 4, 0] (lv' := [(0, .ref (ad 35)), (1, .ref (ad 1)), (2, .int p2), (3, .int p3), (4, .int v44)]) rfl ?_
      exact J_X7_fewestBackTo_j38 X hr hS r0 M N  C  p2 p3 v44   h
-- WindowsGive.loop(II)I (('c', 0), 'i', 'i')
def f_X8_loop (N : Nat) (S : wg_Sh) (C : wg_C) (p1 : Int32) (p2 : Int32) : Option (Int32 × wg_C) :=
  bd (f_X8_isSpot p1) fun r2 =>
  if r2 = 0 then (
    some ((-2 : Int32), C))
  else (
    bd (f_X8_isSort p2) fun r5 =>
    if r5 = 0 then (
      some ((-2 : Int32), C))
    else (
      bd (f_X7_search N S C p1 p2) fun C8 =>
      bd (f_X7_fewestBackTo N C8 p1 p2) fun r10 =>
      if r10 < (1000000000 : Int32) then (
        some (r10, C8))
      else (
        some ((-1 : Int32), C8))))
set_option maxHeartbeats 4000000 in
set_option maxRecDepth 100000 in
theorem c_X8_loop (l : Launch) (E : wg_Ev) (ad : Nat → Nat) (S : wg_Sh) (hS : wg_SC S) (N : Nat) (C : wg_C) (M : wg_M) (p1 : Int32) (p2 : Int32)  {r0 : Int32} {D0 : wg_C} (h : f_X8_loop N S C p1 p2 = some (r0, D0)) : wg_Ci l yX8_loop cX8_loop 4 (some .int) 4 99 E ad S C M [.ref (ad 0), .int p1, .int p2] r0 D0 M := by
  refine wg_start (own := RX8) (by decide +kernel) rfl (Nat.le_of_ble_eq_true rfl) ?_
  intro p e s m below meth c X hr hnm
  refine wg_lv (lv' := [(0, .ref (ad 0)), (1, .int p1), (2, .int p2)]) rfl ?_
  unfold f_X8_loop at h
  refine wg_iload_n X 1 dX8_loop_0 rfl rfl ?_
  obtain ⟨r2, h1, h⟩ := bd_some h
  refine wg_callSi (As := [.int p1]) (rest := []) X (c_X8_isSpot l E ad S C M p1  h1) T_yX8_isSpot k_587 dX8_loop_1 rfl rfl (Nat.le_of_ble_eq_true rfl) ⟨Nat.le_of_ble_eq_true rfl, Nat.le_of_ble_eq_true rfl⟩ ⟨Nat.zero_le _, Nat.zero_le _⟩ ?_
  refine wg_if_eq X 14 dX8_loop_4 (by decide) (fun c3 => ?_) (fun c3 => ?_)
  · have h := if_t c3 h
    refine wg_bipush (v := -2) X dX8_loop_14 (by decide) ?_
    exact wg_iret X ⟨(Prod.mk.inj (sm_inj h)).1, (Prod.mk.inj (sm_inj h)).2, rfl⟩ hr dX8_loop_16
  · have h := if_f c3 h
    refine wg_iload_n X 2 dX8_loop_7 rfl rfl ?_
    obtain ⟨r5, h4, h⟩ := bd_some h
    refine wg_callSi (As := [.int p2]) (rest := []) X (c_X8_isSort l E ad S C M p2  h4) T_yX8_isSort k_554 dX8_loop_8 rfl rfl (Nat.le_of_ble_eq_true rfl) ⟨Nat.le_of_ble_eq_true rfl, Nat.le_of_ble_eq_true rfl⟩ ⟨Nat.zero_le _, Nat.zero_le _⟩ ?_
    refine wg_if_ne X 17 dX8_loop_11 (by decide) (fun c6 => ?_) (fun c6 => ?_)
    · have h := if_f c6 h
      refine wg_aload_n X 0 dX8_loop_17 rfl rfl ?_
      refine wg_getR (b := 35) X cl8 (SCi hS 0 8 rfl) 6 (by decide) dX8_loop_18 k_478 rfl (SCr hS 0 6 35 rfl) ?_
      refine wg_aload_n X 0 dX8_loop_21 rfl rfl ?_
      refine wg_getR (b := 1) X cl8 (SCi hS 0 8 rfl) 0 (by decide) dX8_loop_22 k_472 rfl (SCr hS 0 0 1 rfl) ?_
      refine wg_null X dX8_loop_25 ?_
      refine wg_iload_n X 1 dX8_loop_26 rfl rfl ?_
      refine wg_iload_n X 2 dX8_loop_27 rfl rfl ?_
      obtain ⟨C8, h7, h⟩ := bd_some h
      refine wg_callVv (As := [.ref (ad 1), .null, .int p1, .int p2]) (rest := []) X (c_X7_search l E ad S hS N C M p1 p2  h7) T_yX7_search k_590 cl7 (SCi hS 35 7 rfl) dX8_loop_28 rfl rfl (Nat.le_of_ble_eq_true rfl) ⟨Nat.le_of_ble_eq_true rfl, Nat.le_of_ble_eq_true rfl⟩ ⟨Nat.zero_le _, Nat.zero_le _⟩ ?_
      refine wg_aload_n X 0 dX8_loop_31 rfl rfl ?_
      refine wg_getR (b := 35) X cl8 (SCi hS 0 8 rfl) 6 (by decide) dX8_loop_32 k_478 rfl (SCr hS 0 6 35 rfl) ?_
      refine wg_aload_n X 0 dX8_loop_35 rfl rfl ?_
      refine wg_getR (b := 1) X cl8 (SCi hS 0 8 rfl) 0 (by decide) dX8_loop_36 k_472 rfl (SCr hS 0 0 1 rfl) ?_
      refine wg_iload_n X 1 dX8_loop_39 rfl rfl ?_
      refine wg_iload_n X 2 dX8_loop_40 rfl rfl ?_
      obtain ⟨r10, h9, h⟩ := bd_some h
      refine wg_callVi (As := [.ref (ad 1), .int p1, .int p2]) (rest := []) X (c_X7_fewestBackTo l E ad S hS N C8 M p1 p2  h9) T_yX7_fewestBackTo k_671 cl7 (SCi hS 35 7 rfl) dX8_loop_41 rfl rfl (Nat.le_of_ble_eq_true rfl) ⟨Nat.le_of_ble_eq_true rfl, Nat.le_of_ble_eq_true rfl⟩ ⟨Nat.zero_le _, Nat.zero_le _⟩ ?_
      refine wg_istore_n (lv' := [(3, .int r10), (0, .ref (ad 0)), (1, .int p1), (2, .int p2)]) X dX8_loop_44 rfl rfl (by decide) rfl ?_
      refine wg_iload_n X 0 dX8_loop_45 rfl rfl ?_
      refine wg_ldc (v := 1000000000) X dX8_loop_46 k_645 ?_
      refine wg_icmp_lt X 55 dX8_loop_48 (by decide) (fun c11 => ?_) (fun c11 => ?_)
      · have h := if_t c11 h
        refine wg_iload_n X 0 dX8_loop_55 rfl rfl ?_
        exact wg_iret X ⟨(Prod.mk.inj (sm_inj h)).1, (Prod.mk.inj (sm_inj h)).2, rfl⟩ hr dX8_loop_56
      · have h := if_f c11 h
        refine wg_iconst (v := -1) X dX8_loop_51 (by decide) ?_
        refine wg_goto X 56 dX8_loop_52 (by decide) ?_
        exact wg_iret X ⟨(Prod.mk.inj (sm_inj h)).1, (Prod.mk.inj (sm_inj h)).2, rfl⟩ hr dX8_loop_56
    · have h := if_t c6 h
      refine wg_bipush (v := -2) X dX8_loop_14 (by decide) ?_
      exact wg_iret X ⟨(Prod.mk.inj (sm_inj h)).1, (Prod.mk.inj (sm_inj h)).2, rfl⟩ hr dX8_loop_16
-- WindowsGive.spots(II)I (('c', 0), 'i', 'i')
def f_X8_spots_l36 (N : Nat) (C : wg_C)   (x3 : Int32) (x4 : Int32) : Option ((Int32 × Int32) ⊕ (Int32 × Int32)) :=
  if (6 : Int32) ≤ x4 then (
    some (.inr (x3, x4)))
  else (
    ck (inb x4 6) <|
    lt_ (x3 + ((32 : Int32) - (C 36 x4.toNatClampNeg))) fun v11 =>
    lt_ (x4 + (1 : Int32)) fun v13 =>
    some (.inl (v11, v13)))
def f_X8_spots (N : Nat) (C : wg_C) (p1 : Int32) (p2 : Int32) : Option (Int32 × wg_C) :=
  bd (f_X8_isSpot p1) fun r2 =>
  if r2 = 0 then (
    some ((-2 : Int32), C))
  else (
    bd (f_X8_isSort p2) fun r5 =>
    if r5 = 0 then (
      some ((-2 : Int32), C))
    else (
      bd (f_X7_reach N C p1 p2 (0 : Int32)) fun C8 =>
      bd2 (lp (fun o => f_X8_spots_l36 N C8   o.1 o.2) N ((0 : Int32), (0 : Int32))) fun v15 v16 =>
      some (v15, C8)))
abbrev G_X8_spots (p : Program) (l : Launch) (e : Env) (s : State) (m : MethodId) (args : Array Value) (below : List Frame) (meth : Method) (c : Code) (E : wg_Ev) (ad : Nat → Nat) (S : wg_Sh) (r0 : Int32) (C0 : wg_C) (M0 : wg_M) (pc : Nat) (C : wg_C) (M : wg_M) (lv : List (Nat × Value)) (st : List Value) : Prop := wg_G p l e (wg_Rm 5 120) s m args below meth c (MQ below (wg_Qi E ad S r0 C0 M0) args s 0 0 (wg_A E)) 5 E ad S 0 0 pc C M lv st
set_option maxHeartbeats 4000000 in
set_option maxRecDepth 100000 in
theorem L_X8_spots_l36 {p : Program} {l : Launch} {e : Env} {s : State} {m : MethodId} {args : Array Value} {below : List Frame} {meth : Method} {c : Code} {E : wg_Ev} {ad : Nat → Nat} {S : wg_Sh} (X : wg_X p s m args meth c cX8_spots 5 RX8 E) (hr : meth.sig.returnType = (some .int)) (hS : wg_SC S) (r0 : Int32) (D0 : wg_C) (M : wg_M) (N : Nat)  (C : wg_C)    : ∀ (n : Nat) (x3 : Int32) (x4 : Int32) (o : (Int32 × Int32)), lp (fun o => f_X8_spots_l36 N C   o.1 o.2) n (x3, x4) = some o → (∀ (y3 : Int32) (y4 : Int32), o = (y3, y4) → G_X8_spots p l e s m args below meth c E ad S r0 D0 M 65 C M [(0, .ref (ad 0)), (3, .int y3), (4, .int y4)] []) → G_X8_spots p l e s m args below meth c E ad S r0 D0 M 36 C M [(0, .ref (ad 0)), (3, .int x3), (4, .int x4)] [] := by
  intro n
  induction n with
  | zero => exact fun _ _ o h => (lp_zero h).elim
  | succ n ih =>
    intro x3 x4 o h K
    obtain ⟨o1, hb, h2⟩ := lp_some h
    replace hb : f_X8_spots_l36 N C   x3 x4 = some o1 := hb
    clear h
    have Kc : ∀ (y3 : Int32) (y4 : Int32), o1 = Sum.inl (y3, y4) → G_X8_spots p l e s m args below meth c E ad S r0 D0 M 36 C M [(0, .ref (ad 0)), (3, .int y3), (4, .int y4)] [] := fun y3 y4 e1 => by
      subst e1
      exact ih y3 y4 o h2 K
    have Ke : ∀ (y3 : Int32) (y4 : Int32), o1 = Sum.inr ((y3, y4)) → G_X8_spots p l e s m args below meth c E ad S r0 D0 M 65 C M [(0, .ref (ad 0)), (3, .int y3), (4, .int y4)] [] := fun y3 y4 e1 => by
      subst e1
      exact K y3 y4 (sm_inj (α := (Int32 × Int32)) h2).symm
    clear ih K h2
    unfold f_X8_spots_l36 at hb
    have h := hb
    clear hb
    refine wg_iload X 2 dX8_spots_36 rfl ?_
    refine wg_bipush (v := 6) X dX8_spots_38 (by decide) ?_
    refine wg_icmp_ge X 65 dX8_spots_40 (by decide) (fun c9 => ?_) (fun c9 => ?_)
    · have h := if_t c9 h
      exact Ke x3 x4 (sm_inj h).symm
    · have h := if_f c9 h
      refine wg_iload_n X 1 dX8_spots_43 rfl rfl ?_
      refine wg_bipush (v := 32) X dX8_spots_44 (by decide) ?_
      refine wg_aload_n X 0 dX8_spots_46 rfl rfl ?_
      refine wg_getR (b := 35) X cl8 (SCi hS 0 8 rfl) 6 (by decide) dX8_spots_47 k_478 rfl (SCr hS 0 6 35 rfl) ?_
      refine wg_getR (b := 36) X cl7 (SCi hS 35 7 rfl) 0 (by decide) dX8_spots_50 k_249 rfl (SCr hS 35 0 36 rfl) ?_
      refine wg_iload X 2 dX8_spots_53 rfl ?_
      obtain ⟨z10, h⟩ := ck_some h
      refine wg_iald X (SCi hS 36 10 rfl) (SCl hS 36 6 rfl) z10 dX8_spots_55 ?_
      refine wg_isub X dX8_spots_56 ?_
      refine wg_iadd X dX8_spots_57 ?_
      obtain ⟨v11, e12, h⟩ := lt_some h
      refine wg_istore_n (lv' := [(3, .int v11), (0, .ref (ad 0)), (4, .int x4)]) X dX8_spots_58 rfl e12 (by decide) rfl ?_
      obtain ⟨v13, e14, h⟩ := lt_some h
      refine wg_iinc (lv' := [(4, .int v13), (3, .int v11), (0, .ref (ad 0))]) X 2 dX8_spots_59 rfl e14 (by decide) rfl ?_
      refine wg_goto X 36 dX8_spots_62 (by decide) ?_
      refine wg_pick [2, 1, 0] (lv' := [(0, .ref (ad 0)), (3, .int v11), (4, .int v13)]) rfl ?_
      exact Kc v11 v13 (sm_inj h).symm
set_option maxHeartbeats 4000000 in
set_option maxRecDepth 100000 in
theorem c_X8_spots (l : Launch) (E : wg_Ev) (ad : Nat → Nat) (S : wg_Sh) (hS : wg_SC S) (N : Nat) (C : wg_C) (M : wg_M) (p1 : Int32) (p2 : Int32)  {r0 : Int32} {D0 : wg_C} (h : f_X8_spots N C p1 p2 = some (r0, D0)) : wg_Ci l yX8_spots cX8_spots 5 (some .int) 5 120 E ad S C M [.ref (ad 0), .int p1, .int p2] r0 D0 M := by
  refine wg_start (own := RX8) (by decide +kernel) rfl (Nat.le_of_ble_eq_true rfl) ?_
  intro p e s m below meth c X hr hnm
  refine wg_lv (lv' := [(0, .ref (ad 0)), (1, .int p1), (2, .int p2)]) rfl ?_
  unfold f_X8_spots at h
  refine wg_iload_n X 1 dX8_spots_0 rfl rfl ?_
  obtain ⟨r2, h1, h⟩ := bd_some h
  refine wg_callSi (As := [.int p1]) (rest := []) X (c_X8_isSpot l E ad S C M p1  h1) T_yX8_isSpot k_587 dX8_spots_1 rfl rfl (Nat.le_of_ble_eq_true rfl) ⟨Nat.le_of_ble_eq_true rfl, Nat.le_of_ble_eq_true rfl⟩ ⟨Nat.zero_le _, Nat.zero_le _⟩ ?_
  refine wg_if_eq X 14 dX8_spots_4 (by decide) (fun c3 => ?_) (fun c3 => ?_)
  · have h := if_t c3 h
    refine wg_bipush (v := -2) X dX8_spots_14 (by decide) ?_
    exact wg_iret X ⟨(Prod.mk.inj (sm_inj h)).1, (Prod.mk.inj (sm_inj h)).2, rfl⟩ hr dX8_spots_16
  · have h := if_f c3 h
    refine wg_iload_n X 2 dX8_spots_7 rfl rfl ?_
    obtain ⟨r5, h4, h⟩ := bd_some h
    refine wg_callSi (As := [.int p2]) (rest := []) X (c_X8_isSort l E ad S C M p2  h4) T_yX8_isSort k_554 dX8_spots_8 rfl rfl (Nat.le_of_ble_eq_true rfl) ⟨Nat.le_of_ble_eq_true rfl, Nat.le_of_ble_eq_true rfl⟩ ⟨Nat.zero_le _, Nat.zero_le _⟩ ?_
    refine wg_if_ne X 17 dX8_spots_11 (by decide) (fun c6 => ?_) (fun c6 => ?_)
    · have h := if_f c6 h
      refine wg_aload_n X 0 dX8_spots_17 rfl rfl ?_
      refine wg_getR (b := 35) X cl8 (SCi hS 0 8 rfl) 6 (by decide) dX8_spots_18 k_478 rfl (SCr hS 0 6 35 rfl) ?_
      refine wg_aload_n X 0 dX8_spots_21 rfl rfl ?_
      refine wg_getR (b := 1) X cl8 (SCi hS 0 8 rfl) 0 (by decide) dX8_spots_22 k_472 rfl (SCr hS 0 0 1 rfl) ?_
      refine wg_iload_n X 1 dX8_spots_25 rfl rfl ?_
      refine wg_iload_n X 2 dX8_spots_26 rfl rfl ?_
      refine wg_iconst (v := 0) X dX8_spots_27 (by decide) ?_
      obtain ⟨C8, h7, h⟩ := bd_some h
      refine wg_callVv (As := [.ref (ad 1), .int p1, .int p2, .int (0 : Int32)]) (rest := []) X (c_X7_reach l E ad S hS N C M p1 p2 (0 : Int32)  h7) T_yX7_reach k_654 cl7 (SCi hS 35 7 rfl) dX8_spots_28 rfl rfl (Nat.le_of_ble_eq_true rfl) ⟨Nat.le_of_ble_eq_true rfl, Nat.le_of_ble_eq_true rfl⟩ ⟨Nat.zero_le _, Nat.zero_le _⟩ ?_
      refine wg_iconst (v := 0) X dX8_spots_31 (by decide) ?_
      refine wg_istore_n (lv' := [(3, .int (0 : Int32)), (0, .ref (ad 0)), (1, .int p1), (2, .int p2)]) X dX8_spots_32 rfl rfl (by decide) rfl ?_
      refine wg_iconst (v := 0) X dX8_spots_33 (by decide) ?_
      refine wg_istore (lv' := [(4, .int (0 : Int32)), (3, .int (0 : Int32)), (0, .ref (ad 0)), (1, .int p1), (2, .int p2)]) X dX8_spots_34 rfl (by decide) rfl ?_
      obtain ⟨o17, h18, h⟩ := bd2_o h
      refine wg_pick [2, 1, 0] (lv' := [(0, .ref (ad 0)), (3, .int (0 : Int32)), (4, .int (0 : Int32))]) rfl ?_
      refine L_X8_spots_l36 X hr hS r0 D0 M N  C8    N (0 : Int32) (0 : Int32) o17 h18 (fun v15 v16 e20 => ?_)
      · subst o17
        replace h := bd2_in h
        refine wg_iload_n X 1 dX8_spots_65 rfl rfl ?_
        exact wg_iret X ⟨(Prod.mk.inj (sm_inj h)).1, (Prod.mk.inj (sm_inj h)).2, rfl⟩ hr dX8_spots_66
    · have h := if_t c6 h
      refine wg_bipush (v := -2) X dX8_spots_14 (by decide) ?_
      exact wg_iret X ⟨(Prod.mk.inj (sm_inj h)).1, (Prod.mk.inj (sm_inj h)).2, rfl⟩ hr dX8_spots_16
-- WindowsGive$Walk.comes(LWindowsGive$House;IIII)Z (('c', 35), ('c', 1), 'i', 'i', 'i', 'i')
def f_X7_comes (N : Nat) (C : wg_C) (p2 : Int32) (p3 : Int32) (p4 : Int32) (p5 : Int32) : Option (Int32 × wg_C) :=
  bd (f_X7_reach N C p2 p4 p5) fun C2 =>
  ck (inb (p3 / (32 : Int32)) 6) <|
  if (p3 - p3 / (32 : Int32) * (32 : Int32)) < (C2 36 (p3 / (32 : Int32)).toNatClampNeg) then (
    some ((0 : Int32), C2))
  else (
    some ((1 : Int32), C2))
set_option maxHeartbeats 4000000 in
set_option maxRecDepth 100000 in
theorem c_X7_comes (l : Launch) (E : wg_Ev) (ad : Nat → Nat) (S : wg_Sh) (hS : wg_SC S) (N : Nat) (C : wg_C) (M : wg_M) (p2 : Int32) (p3 : Int32) (p4 : Int32) (p5 : Int32)  {r0 : Int32} {D0 : wg_C} (h : f_X7_comes N C p2 p3 p4 p5 = some (r0, D0)) : wg_Ci l yX7_comes cX7_comes 6 (some .boolean) 5 120 E ad S C M [.ref (ad 35), .ref (ad 1), .int p2, .int p3, .int p4, .int p5] r0 D0 M := by
  refine wg_start (own := RX7) (by decide +kernel) rfl (Nat.le_of_ble_eq_true rfl) ?_
  intro p e s m below meth c X hr hnm
  refine wg_lv (lv' := [(0, .ref (ad 35)), (1, .ref (ad 1)), (2, .int p2), (3, .int p3), (4, .int p4), (5, .int p5)]) rfl ?_
  unfold f_X7_comes at h
  refine wg_aload_n X 0 dX7_comes_0 rfl rfl ?_
  refine wg_aload_n X 1 dX7_comes_1 rfl rfl ?_
  refine wg_iload_n X 2 dX7_comes_2 rfl rfl ?_
  refine wg_iload X 4 dX7_comes_3 rfl ?_
  refine wg_iload X 5 dX7_comes_5 rfl ?_
  obtain ⟨C2, h1, h⟩ := bd_some h
  refine wg_callVv (As := [.ref (ad 1), .int p2, .int p4, .int p5]) (rest := []) X (c_X7_reach l E ad S hS N C M p2 p4 p5  h1) T_yX7_reach k_692 cl7 (SCi hS 35 7 rfl) dX7_comes_7 rfl rfl (Nat.le_of_ble_eq_true rfl) ⟨Nat.le_of_ble_eq_true rfl, Nat.le_of_ble_eq_true rfl⟩ ⟨Nat.zero_le _, Nat.zero_le _⟩ ?_
  refine wg_aload_n X 0 dX7_comes_10 rfl rfl ?_
  refine wg_getR (b := 36) X cl7 (SCi hS 35 7 rfl) 0 (by decide) dX7_comes_11 k_248 rfl (SCr hS 35 0 36 rfl) ?_
  refine wg_iload_n X 3 dX7_comes_14 rfl rfl ?_
  refine wg_bipush (v := 32) X dX7_comes_15 (by decide) ?_
  refine wg_idiv X dX7_comes_17 (by decide) ?_
  obtain ⟨z3, h⟩ := ck_some h
  refine wg_iald X (SCi hS 36 10 rfl) (SCl hS 36 6 rfl) z3 dX7_comes_18 ?_
  refine wg_iload_n X 3 dX7_comes_19 rfl rfl ?_
  refine wg_bipush (v := 32) X dX7_comes_20 (by decide) ?_
  refine wg_irem X dX7_comes_22 (by decide) ?_
  refine wg_icmp_gt X 30 dX7_comes_23 (by decide) (fun c4 => ?_) (fun c4 => ?_)
  · have h := if_t c4 h
    refine wg_iconst (v := 0) X dX7_comes_30 (by decide) ?_
    exact wg_zret X ⟨(Prod.mk.inj (sm_inj h)).1, (Prod.mk.inj (sm_inj h)).2, rfl⟩ hr (by decide) dX7_comes_31
  · have h := if_f c4 h
    refine wg_iconst (v := 1) X dX7_comes_26 (by decide) ?_
    refine wg_goto X 31 dX7_comes_27 (by decide) ?_
    exact wg_zret X ⟨(Prod.mk.inj (sm_inj h)).1, (Prod.mk.inj (sm_inj h)).2, rfl⟩ hr (by decide) dX7_comes_31
-- WindowsGive.neededAlone(III)I (('c', 0), 'i', 'i', 'i')
def f_X8_neededAlone_l6 (N : Nat)  (x1 : Int32) (x2 : Int32) (x3 : Int32) (C : wg_C) (x4 : Int32) (x5 : Int32) : Option ((wg_C × Int32 × Int32) ⊕ (wg_C × Int32 × Int32)) :=
  if (C 1 2) ≤ x5 then (
    some (.inr (C, x4, x5)))
  else (
    bd2 (f_X7_comes N C x1 x2 x3 ((1 : Int32) <<< (x5 &&& 31))) fun r3 C4 =>
    if r3 = 0 then (
      lt_ (x4 ||| ((1 : Int32) <<< (x5 &&& 31))) fun v8 =>
      lt_ (x5 + (1 : Int32)) fun v10 =>
      some (.inl (C4, v8, v10)))
    else (
      lt_ (x5 + (1 : Int32)) fun v6 =>
      some (.inl (C4, x4, v6))))
def f_X8_neededAlone (N : Nat) (C : wg_C) (p1 : Int32) (p2 : Int32) (p3 : Int32) : Option (Int32 × wg_C) :=
  bd3 (lp (fun o => f_X8_neededAlone_l6 N  p1 p2 p3 o.1 o.2.1 o.2.2) N (C, (0 : Int32), (0 : Int32))) fun C12 v13 v14 =>
  some (v13, C12)
abbrev G_X8_neededAlone (p : Program) (l : Launch) (e : Env) (s : State) (m : MethodId) (args : Array Value) (below : List Frame) (meth : Method) (c : Code) (E : wg_Ev) (ad : Nat → Nat) (S : wg_Sh) (r0 : Int32) (C0 : wg_C) (M0 : wg_M) (pc : Nat) (C : wg_C) (M : wg_M) (lv : List (Nat × Value)) (st : List Value) : Prop := wg_G p l e (wg_Rm 6 145) s m args below meth c (MQ below (wg_Qi E ad S r0 C0 M0) args s 0 0 (wg_A E)) 6 E ad S 0 0 pc C M lv st
set_option maxHeartbeats 4000000 in
set_option maxRecDepth 100000 in
theorem L_X8_neededAlone_l6 {p : Program} {l : Launch} {e : Env} {s : State} {m : MethodId} {args : Array Value} {below : List Frame} {meth : Method} {c : Code} {E : wg_Ev} {ad : Nat → Nat} {S : wg_Sh} (X : wg_X p s m args meth c cX8_neededAlone 6 RX8 E) (hr : meth.sig.returnType = (some .int)) (hS : wg_SC S) (r0 : Int32) (D0 : wg_C) (M : wg_M) (N : Nat)   (x1 : Int32) (x2 : Int32) (x3 : Int32)  : ∀ (n : Nat) (C : wg_C) (x4 : Int32) (x5 : Int32) (o : (wg_C × Int32 × Int32)), lp (fun o => f_X8_neededAlone_l6 N  x1 x2 x3 o.1 o.2.1 o.2.2) n (C, x4, x5) = some o → (∀ (Dy : wg_C) (y4 : Int32) (y5 : Int32), o = (Dy, y4, y5) → G_X8_neededAlone p l e s m args below meth c E ad S r0 D0 M 54 Dy M [(0, .ref (ad 0)), (1, .int x1), (2, .int x2), (3, .int x3), (4, .int y4), (5, .int y5)] []) → G_X8_neededAlone p l e s m args below meth c E ad S r0 D0 M 6 C M [(0, .ref (ad 0)), (1, .int x1), (2, .int x2), (3, .int x3), (4, .int x4), (5, .int x5)] [] := by
  intro n
  induction n with
  | zero => exact fun _ _ _ o h => (lp_zero h).elim
  | succ n ih =>
    intro C x4 x5 o h K
    obtain ⟨o1, hb, h2⟩ := lp_some h
    replace hb : f_X8_neededAlone_l6 N  x1 x2 x3 C x4 x5 = some o1 := hb
    clear h
    have Kc : ∀ (Dy : wg_C) (y4 : Int32) (y5 : Int32), o1 = Sum.inl (Dy, y4, y5) → G_X8_neededAlone p l e s m args below meth c E ad S r0 D0 M 6 Dy M [(0, .ref (ad 0)), (1, .int x1), (2, .int x2), (3, .int x3), (4, .int y4), (5, .int y5)] [] := fun Dy y4 y5 e1 => by
      subst e1
      exact ih Dy y4 y5 o h2 K
    have Ke : ∀ (Dy : wg_C) (y4 : Int32) (y5 : Int32), o1 = Sum.inr ((Dy, y4, y5)) → G_X8_neededAlone p l e s m args below meth c E ad S r0 D0 M 54 Dy M [(0, .ref (ad 0)), (1, .int x1), (2, .int x2), (3, .int x3), (4, .int y4), (5, .int y5)] [] := fun Dy y4 y5 e1 => by
      subst e1
      exact K Dy y4 y5 (sm_inj (α := (wg_C × Int32 × Int32)) h2).symm
    clear ih K h2
    unfold f_X8_neededAlone_l6 at hb
    have h := hb
    clear hb
    refine wg_iload X 5 dX8_neededAlone_6 rfl ?_
    refine wg_aload_n X 0 dX8_neededAlone_8 rfl rfl ?_
    refine wg_getR (b := 1) X cl8 (SCi hS 0 8 rfl) 0 (by decide) dX8_neededAlone_9 k_472 rfl (SCr hS 0 0 1 rfl) ?_
    refine wg_getC X cl0 (SCi hS 1 0 rfl) 2 (by decide) dX8_neededAlone_12 k_147 rfl ?_
    refine wg_icmp_ge X 54 dX8_neededAlone_15 (by decide) (fun c1 => ?_) (fun c1 => ?_)
    · have h := if_t c1 h
      exact Ke C x4 x5 (sm_inj h).symm
    · have h := if_f c1 h
      refine wg_aload_n X 0 dX8_neededAlone_18 rfl rfl ?_
      refine wg_getR (b := 35) X cl8 (SCi hS 0 8 rfl) 6 (by decide) dX8_neededAlone_19 k_478 rfl (SCr hS 0 6 35 rfl) ?_
      refine wg_aload_n X 0 dX8_neededAlone_22 rfl rfl ?_
      refine wg_getR (b := 1) X cl8 (SCi hS 0 8 rfl) 0 (by decide) dX8_neededAlone_23 k_472 rfl (SCr hS 0 0 1 rfl) ?_
      refine wg_iload_n X 1 dX8_neededAlone_26 rfl rfl ?_
      refine wg_iload_n X 2 dX8_neededAlone_27 rfl rfl ?_
      refine wg_iload_n X 3 dX8_neededAlone_28 rfl rfl ?_
      refine wg_iconst (v := 1) X dX8_neededAlone_29 (by decide) ?_
      refine wg_iload X 5 dX8_neededAlone_30 rfl ?_
      refine wg_ishl X dX8_neededAlone_32 ?_
      obtain ⟨r3, C4, h2, h⟩ := bd2_some h
      refine wg_callVi (As := [.ref (ad 1), .int x1, .int x2, .int x3, .int ((1 : Int32) <<< (x5 &&& 31))]) (rest := []) X (c_X7_comes l E ad S hS N C M x1 x2 x3 ((1 : Int32) <<< (x5 &&& 31))  h2) T_yX7_comes k_688 cl7 (SCi hS 35 7 rfl) dX8_neededAlone_33 rfl rfl (Nat.le_of_ble_eq_true rfl) ⟨Nat.le_of_ble_eq_true rfl, Nat.le_of_ble_eq_true rfl⟩ ⟨Nat.zero_le _, Nat.zero_le _⟩ ?_
      refine wg_if_ne X 48 dX8_neededAlone_36 (by decide) (fun c5 => ?_) (fun c5 => ?_)
      · have h := if_f c5 h
        obtain ⟨v6, e7, h⟩ := lt_some h
        refine wg_iinc (lv' := [(5, .int v6), (0, .ref (ad 0)), (1, .int x1), (2, .int x2), (3, .int x3), (4, .int x4)]) X 5 dX8_neededAlone_48 rfl e7 (by decide) rfl ?_
        refine wg_goto X 6 dX8_neededAlone_51 (by decide) ?_
        refine wg_pick [1, 2, 3, 4, 5, 0] (lv' := [(0, .ref (ad 0)), (1, .int x1), (2, .int x2), (3, .int x3), (4, .int x4), (5, .int v6)]) rfl ?_
        exact Kc C4 x4 v6 (sm_inj h).symm
      · have h := if_t c5 h
        refine wg_iload X 4 dX8_neededAlone_39 rfl ?_
        refine wg_iconst (v := 1) X dX8_neededAlone_41 (by decide) ?_
        refine wg_iload X 5 dX8_neededAlone_42 rfl ?_
        refine wg_ishl X dX8_neededAlone_44 ?_
        refine wg_ior X dX8_neededAlone_45 ?_
        obtain ⟨v8, e9, h⟩ := lt_some h
        refine wg_istore (lv' := [(4, .int v8), (0, .ref (ad 0)), (1, .int x1), (2, .int x2), (3, .int x3), (5, .int x5)]) X dX8_neededAlone_46 e9 (by decide) rfl ?_
        obtain ⟨v10, e11, h⟩ := lt_some h
        refine wg_iinc (lv' := [(5, .int v10), (4, .int v8), (0, .ref (ad 0)), (1, .int x1), (2, .int x2), (3, .int x3)]) X 5 dX8_neededAlone_48 rfl e11 (by decide) rfl ?_
        refine wg_goto X 6 dX8_neededAlone_51 (by decide) ?_
        refine wg_pick [2, 3, 4, 5, 1, 0] (lv' := [(0, .ref (ad 0)), (1, .int x1), (2, .int x2), (3, .int x3), (4, .int v8), (5, .int v10)]) rfl ?_
        exact Kc C4 v8 v10 (sm_inj h).symm
set_option maxHeartbeats 4000000 in
set_option maxRecDepth 100000 in
theorem c_X8_neededAlone (l : Launch) (E : wg_Ev) (ad : Nat → Nat) (S : wg_Sh) (hS : wg_SC S) (N : Nat) (C : wg_C) (M : wg_M) (p1 : Int32) (p2 : Int32) (p3 : Int32)  {r0 : Int32} {D0 : wg_C} (h : f_X8_neededAlone N C p1 p2 p3 = some (r0, D0)) : wg_Ci l yX8_neededAlone cX8_neededAlone 6 (some .int) 6 145 E ad S C M [.ref (ad 0), .int p1, .int p2, .int p3] r0 D0 M := by
  refine wg_start (own := RX8) (by decide +kernel) rfl (Nat.le_of_ble_eq_true rfl) ?_
  intro p e s m below meth c X hr hnm
  refine wg_lv (lv' := [(0, .ref (ad 0)), (1, .int p1), (2, .int p2), (3, .int p3)]) rfl ?_
  unfold f_X8_neededAlone at h
  refine wg_iconst (v := 0) X dX8_neededAlone_0 (by decide) ?_
  refine wg_istore (lv' := [(4, .int (0 : Int32)), (0, .ref (ad 0)), (1, .int p1), (2, .int p2), (3, .int p3)]) X dX8_neededAlone_1 rfl (by decide) rfl ?_
  refine wg_iconst (v := 0) X dX8_neededAlone_3 (by decide) ?_
  refine wg_istore (lv' := [(5, .int (0 : Int32)), (4, .int (0 : Int32)), (0, .ref (ad 0)), (1, .int p1), (2, .int p2), (3, .int p3)]) X dX8_neededAlone_4 rfl (by decide) rfl ?_
  obtain ⟨o15, h16, h⟩ := bd3_o h
  refine wg_pick [2, 3, 4, 5, 1, 0] (lv' := [(0, .ref (ad 0)), (1, .int p1), (2, .int p2), (3, .int p3), (4, .int (0 : Int32)), (5, .int (0 : Int32))]) rfl ?_
  refine L_X8_neededAlone_l6 X hr hS r0 D0 M N   p1 p2 p3  N C (0 : Int32) (0 : Int32) o15 h16 (fun C12 v13 v14 e18 => ?_)
  · subst o15
    replace h := bd3_in h
    refine wg_iload X 4 dX8_neededAlone_54 rfl ?_
    exact wg_iret X ⟨(Prod.mk.inj (sm_inj h)).1, (Prod.mk.inj (sm_inj h)).2, rfl⟩ hr dX8_neededAlone_56
-- java/lang/Integer.bitCount(I)I ('i',)
def f_J6_bitCount_0f7a4 (p0 : Int32) : Option Int32 :=
  lt_ (p0 - (((p0.toUInt32 >>> ((1 : Int32).toUInt32 &&& Int32.toUInt32 31)).toInt32) &&& (1431655765 : Int32))) fun v1 =>
  lt_ ((v1 &&& (858993459 : Int32)) + (((v1.toUInt32 >>> ((2 : Int32).toUInt32 &&& Int32.toUInt32 31)).toInt32) &&& (858993459 : Int32))) fun v3 =>
  lt_ ((v3 + ((v3.toUInt32 >>> ((4 : Int32).toUInt32 &&& Int32.toUInt32 31)).toInt32)) &&& (252645135 : Int32)) fun v5 =>
  lt_ (v5 + ((v5.toUInt32 >>> ((8 : Int32).toUInt32 &&& Int32.toUInt32 31)).toInt32)) fun v7 =>
  lt_ (v7 + ((v7.toUInt32 >>> ((16 : Int32).toUInt32 &&& Int32.toUInt32 31)).toInt32)) fun v9 =>
  some (v9 &&& (63 : Int32))
set_option maxHeartbeats 4000000 in
set_option maxRecDepth 100000 in
theorem c_J6_bitCount_0f7a4 (l : Launch) (E : wg_Ev) (ad : Nat → Nat) (S : wg_Sh) (C : wg_C) (M : wg_M) (p0 : Int32)  {r0 : Int32} (h : f_J6_bitCount_0f7a4 p0 = some r0) : wg_Ci l yJ6_bitCount_0f7a4 cJ6_bitCount_0f7a4 1 (some .int) 0 0 E ad S C M [.int p0] r0 C M := by
  refine wg_start (own := RJ6) (by decide +kernel) rfl (Nat.le_of_ble_eq_true rfl) ?_
  intro p e s m below meth c X hr hnm
  refine wg_lv (lv' := [(0, .int p0)]) rfl ?_
  unfold f_J6_bitCount_0f7a4 at h
  refine wg_iload_n X 0 dJ6_bitCount_0f7a4_0 rfl rfl ?_
  refine wg_iload_n X 0 dJ6_bitCount_0f7a4_1 rfl rfl ?_
  refine wg_iconst (v := 1) X dJ6_bitCount_0f7a4_2 (by decide) ?_
  refine wg_iushr X dJ6_bitCount_0f7a4_3 ?_
  refine wg_ldcw (v := 1431655765) X dJ6_bitCount_0f7a4_4 k_696 ?_
  refine wg_iand X dJ6_bitCount_0f7a4_7 ?_
  refine wg_isub X dJ6_bitCount_0f7a4_8 ?_
  obtain ⟨v1, e2, h⟩ := lt_some h
  refine wg_istore_n (lv' := [(0, .int v1)]) X dJ6_bitCount_0f7a4_9 rfl e2 (by decide) rfl ?_
  refine wg_iload_n X 0 dJ6_bitCount_0f7a4_10 rfl rfl ?_
  refine wg_ldcw (v := 858993459) X dJ6_bitCount_0f7a4_11 k_697 ?_
  refine wg_iand X dJ6_bitCount_0f7a4_14 ?_
  refine wg_iload_n X 0 dJ6_bitCount_0f7a4_15 rfl rfl ?_
  refine wg_iconst (v := 2) X dJ6_bitCount_0f7a4_16 (by decide) ?_
  refine wg_iushr X dJ6_bitCount_0f7a4_17 ?_
  refine wg_ldcw (v := 858993459) X dJ6_bitCount_0f7a4_18 k_697 ?_
  refine wg_iand X dJ6_bitCount_0f7a4_21 ?_
  refine wg_iadd X dJ6_bitCount_0f7a4_22 ?_
  obtain ⟨v3, e4, h⟩ := lt_some h
  refine wg_istore_n (lv' := [(0, .int v3)]) X dJ6_bitCount_0f7a4_23 rfl e4 (by decide) rfl ?_
  refine wg_iload_n X 0 dJ6_bitCount_0f7a4_24 rfl rfl ?_
  refine wg_iload_n X 0 dJ6_bitCount_0f7a4_25 rfl rfl ?_
  refine wg_iconst (v := 4) X dJ6_bitCount_0f7a4_26 (by decide) ?_
  refine wg_iushr X dJ6_bitCount_0f7a4_27 ?_
  refine wg_iadd X dJ6_bitCount_0f7a4_28 ?_
  refine wg_ldcw (v := 252645135) X dJ6_bitCount_0f7a4_29 k_698 ?_
  refine wg_iand X dJ6_bitCount_0f7a4_32 ?_
  obtain ⟨v5, e6, h⟩ := lt_some h
  refine wg_istore_n (lv' := [(0, .int v5)]) X dJ6_bitCount_0f7a4_33 rfl e6 (by decide) rfl ?_
  refine wg_iload_n X 0 dJ6_bitCount_0f7a4_34 rfl rfl ?_
  refine wg_iload_n X 0 dJ6_bitCount_0f7a4_35 rfl rfl ?_
  refine wg_bipush (v := 8) X dJ6_bitCount_0f7a4_36 (by decide) ?_
  refine wg_iushr X dJ6_bitCount_0f7a4_38 ?_
  refine wg_iadd X dJ6_bitCount_0f7a4_39 ?_
  obtain ⟨v7, e8, h⟩ := lt_some h
  refine wg_istore_n (lv' := [(0, .int v7)]) X dJ6_bitCount_0f7a4_40 rfl e8 (by decide) rfl ?_
  refine wg_iload_n X 0 dJ6_bitCount_0f7a4_41 rfl rfl ?_
  refine wg_iload_n X 0 dJ6_bitCount_0f7a4_42 rfl rfl ?_
  refine wg_bipush (v := 16) X dJ6_bitCount_0f7a4_43 (by decide) ?_
  refine wg_iushr X dJ6_bitCount_0f7a4_45 ?_
  refine wg_iadd X dJ6_bitCount_0f7a4_46 ?_
  obtain ⟨v9, e10, h⟩ := lt_some h
  refine wg_istore_n (lv' := [(0, .int v9)]) X dJ6_bitCount_0f7a4_47 rfl e10 (by decide) rfl ?_
  refine wg_iload_n X 0 dJ6_bitCount_0f7a4_48 rfl rfl ?_
  refine wg_bipush (v := 63) X dJ6_bitCount_0f7a4_49 (by decide) ?_
  refine wg_iand X dJ6_bitCount_0f7a4_51 ?_
  exact wg_iret X ⟨(sm_inj h), rfl, rfl⟩ hr dJ6_bitCount_0f7a4_52
-- WindowsGive.fewestToBrick(III)I (('c', 0), 'i', 'i', 'i')
def f_X8_fewestToBrick_l52 (N : Nat)  (x1 : Int32) (x2 : Int32) (x3 : Int32) (x4 : Int32) (x5 : Int32) (C : wg_C) (x6 : Int32) : Option ((wg_C × Int32) ⊕ ((wg_C × Int32) ⊕ (Int32 × wg_C))) :=
  if x4 ≤ x6 then (
    some (.inr (.inl (C, x6))))
  else (
    bd (f_J6_bitCount_0f7a4 x6) fun r10 =>
    if r10 = x5 then (
      bd2 (f_X7_comes N C x1 x2 x3 x6) fun r15 C16 =>
      if r15 = 0 then (
        some (.inr (.inr (x6, C16))))
      else (
        lt_ (x6 + (1 : Int32)) fun v18 =>
        some (.inl (C16, v18))))
    else (
      lt_ (x6 + (1 : Int32)) fun v12 =>
      some (.inl (C, v12))))
def f_X8_fewestToBrick_l37 (N : Nat)  (x1 : Int32) (x2 : Int32) (x3 : Int32) (x4 : Int32) (C : wg_C) (x5 : Int32) : Option ((wg_C × Int32) ⊕ ((wg_C × Int32) ⊕ (Int32 × wg_C))) :=
  if (C 1 2) < x5 then (
    some (.inr (.inl (C, x5))))
  else (
    bs2 (lp (fun o => f_X8_fewestToBrick_l52 N  x1 x2 x3 x4 x5 o.1 o.2) N (C, (0 : Int32))) (fun C20 v21 =>
      lt_ (x5 + (1 : Int32)) fun v26 =>
      some (.inl (C20, v26)))
      (fun q24 => some (.inr (.inr q24))))
def f_X8_fewestToBrick (N : Nat) (C : wg_C) (p1 : Int32) (p2 : Int32) (p3 : Int32) : Option (Int32 × wg_C) :=
  lt_ ((1 : Int32) <<< ((C 1 2) &&& 31)) fun v1 =>
  bd2 (f_X7_comes N C p1 p2 p3 (v1 - (1 : Int32))) fun r4 C5 =>
  if r4 = 0 then (
    bs2 (lp (fun o => f_X8_fewestToBrick_l37 N  p1 p2 p3 v1 o.1 o.2) N (C5, (0 : Int32))) (fun C28 v29 =>
      some ((-1 : Int32), C28))
      (fun q32 => some q32))
  else (
    some ((-1 : Int32), C5))
abbrev G_X8_fewestToBrick (p : Program) (l : Launch) (e : Env) (s : State) (m : MethodId) (args : Array Value) (below : List Frame) (meth : Method) (c : Code) (E : wg_Ev) (ad : Nat → Nat) (S : wg_Sh) (r0 : Int32) (C0 : wg_C) (M0 : wg_M) (pc : Nat) (C : wg_C) (M : wg_M) (lv : List (Nat × Value)) (st : List Value) : Prop := wg_G p l e (wg_Rm 6 145) s m args below meth c (MQ below (wg_Qi E ad S r0 C0 M0) args s 0 0 (wg_A E)) 7 E ad S 0 0 pc C M lv st
set_option maxHeartbeats 4000000 in
set_option maxRecDepth 100000 in
theorem L_X8_fewestToBrick_l52 {p : Program} {l : Launch} {e : Env} {s : State} {m : MethodId} {args : Array Value} {below : List Frame} {meth : Method} {c : Code} {E : wg_Ev} {ad : Nat → Nat} {S : wg_Sh} (X : wg_X p s m args meth c cX8_fewestToBrick 7 RX8 E) (hr : meth.sig.returnType = (some .int)) (hS : wg_SC S) (r0 : Int32) (D0 : wg_C) (M : wg_M) (N : Nat)   (x1 : Int32) (x2 : Int32) (x3 : Int32) (x4 : Int32) (x5 : Int32)  : ∀ (n : Nat) (C : wg_C) (x6 : Int32) (o : ((wg_C × Int32) ⊕ (Int32 × wg_C))), lp (fun o => f_X8_fewestToBrick_l52 N  x1 x2 x3 x4 x5 o.1 o.2) n (C, x6) = some o → (∀ (Dy : wg_C) (y6 : Int32), o = Sum.inl (Dy, y6) → G_X8_fewestToBrick p l e s m args below meth c E ad S r0 D0 M 97 Dy M [(0, .ref (ad 0)), (1, .int x1), (2, .int x2), (3, .int x3), (4, .int x4), (5, .int x5), (6, .int y6)] []) → (∀ q : (Int32 × wg_C), o = Sum.inr q → q = (r0, D0)) → G_X8_fewestToBrick p l e s m args below meth c E ad S r0 D0 M 52 C M [(0, .ref (ad 0)), (1, .int x1), (2, .int x2), (3, .int x3), (4, .int x4), (5, .int x5), (6, .int x6)] [] := by
  intro n
  induction n with
  | zero => exact fun _ _ o h => (lp_zero h).elim
  | succ n ih =>
    intro C x6 o h K KR
    obtain ⟨o1, hb, h2⟩ := lp_some h
    replace hb : f_X8_fewestToBrick_l52 N  x1 x2 x3 x4 x5 C x6 = some o1 := hb
    clear h
    have Kc : ∀ (Dy : wg_C) (y6 : Int32), o1 = Sum.inl (Dy, y6) → G_X8_fewestToBrick p l e s m args below meth c E ad S r0 D0 M 52 Dy M [(0, .ref (ad 0)), (1, .int x1), (2, .int x2), (3, .int x3), (4, .int x4), (5, .int x5), (6, .int y6)] [] := fun Dy y6 e1 => by
      subst e1
      exact ih Dy y6 o h2 K KR
    have Ke : ∀ (Dy : wg_C) (y6 : Int32), o1 = Sum.inr (Sum.inl (Dy, y6)) → G_X8_fewestToBrick p l e s m args below meth c E ad S r0 D0 M 97 Dy M [(0, .ref (ad 0)), (1, .int x1), (2, .int x2), (3, .int x3), (4, .int x4), (5, .int x5), (6, .int y6)] [] := fun Dy y6 e1 => by
      subst e1
      exact K Dy y6 (sm_inj (α := ((wg_C × Int32) ⊕ (Int32 × wg_C))) h2).symm
    have Kr : ∀ q : (Int32 × wg_C), o1 = Sum.inr (Sum.inr q) → q = (r0, D0) := fun q e1 => by
      subst e1
      exact KR q (sm_inj (α := ((wg_C × Int32) ⊕ (Int32 × wg_C))) h2).symm
    clear ih K h2 KR
    unfold f_X8_fewestToBrick_l52 at hb
    have h := hb
    clear hb
    refine wg_iload X 6 dX8_fewestToBrick_52 rfl ?_
    refine wg_iload X 4 dX8_fewestToBrick_54 rfl ?_
    refine wg_icmp_ge X 97 dX8_fewestToBrick_56 (by decide) (fun c8 => ?_) (fun c8 => ?_)
    · have h := if_t c8 h
      exact Ke C x6 (sm_inj h).symm
    · have h := if_f c8 h
      refine wg_iload X 6 dX8_fewestToBrick_59 rfl ?_
      obtain ⟨r10, h9, h⟩ := bd_some h
      refine wg_callSi (As := [.int x6]) (rest := []) X (c_J6_bitCount_0f7a4 l E ad S C M x6  h9) T_yJ6_bitCount_0f7a4 k_693 dX8_fewestToBrick_61 rfl rfl (Nat.le_of_ble_eq_true rfl) ⟨Nat.le_of_ble_eq_true rfl, Nat.le_of_ble_eq_true rfl⟩ ⟨Nat.zero_le _, Nat.zero_le _⟩ ?_
      refine wg_iload X 5 dX8_fewestToBrick_64 rfl ?_
      refine wg_icmp_ne X 91 dX8_fewestToBrick_66 (by decide) (fun c11 => ?_) (fun c11 => ?_)
      · have h := if_f c11 h
        obtain ⟨v12, e13, h⟩ := lt_some h
        refine wg_iinc (lv' := [(6, .int v12), (0, .ref (ad 0)), (1, .int x1), (2, .int x2), (3, .int x3), (4, .int x4), (5, .int x5)]) X 6 dX8_fewestToBrick_91 rfl e13 (by decide) rfl ?_
        refine wg_goto X 52 dX8_fewestToBrick_94 (by decide) ?_
        refine wg_pick [1, 2, 3, 4, 5, 6, 0] (lv' := [(0, .ref (ad 0)), (1, .int x1), (2, .int x2), (3, .int x3), (4, .int x4), (5, .int x5), (6, .int v12)]) rfl ?_
        exact Kc C v12 (sm_inj h).symm
      · have h := if_t c11 h
        refine wg_aload_n X 0 dX8_fewestToBrick_69 rfl rfl ?_
        refine wg_getR (b := 35) X cl8 (SCi hS 0 8 rfl) 6 (by decide) dX8_fewestToBrick_70 k_478 rfl (SCr hS 0 6 35 rfl) ?_
        refine wg_aload_n X 0 dX8_fewestToBrick_73 rfl rfl ?_
        refine wg_getR (b := 1) X cl8 (SCi hS 0 8 rfl) 0 (by decide) dX8_fewestToBrick_74 k_472 rfl (SCr hS 0 0 1 rfl) ?_
        refine wg_iload_n X 1 dX8_fewestToBrick_77 rfl rfl ?_
        refine wg_iload_n X 2 dX8_fewestToBrick_78 rfl rfl ?_
        refine wg_iload_n X 3 dX8_fewestToBrick_79 rfl rfl ?_
        refine wg_iload X 6 dX8_fewestToBrick_80 rfl ?_
        obtain ⟨r15, C16, h14, h⟩ := bd2_some h
        refine wg_callVi (As := [.ref (ad 1), .int x1, .int x2, .int x3, .int x6]) (rest := []) X (c_X7_comes l E ad S hS N C M x1 x2 x3 x6  h14) T_yX7_comes k_688 cl7 (SCi hS 35 7 rfl) dX8_fewestToBrick_82 rfl rfl (Nat.le_of_ble_eq_true rfl) ⟨Nat.le_of_ble_eq_true rfl, Nat.le_of_ble_eq_true rfl⟩ ⟨Nat.zero_le _, Nat.zero_le _⟩ ?_
        refine wg_if_ne X 91 dX8_fewestToBrick_85 (by decide) (fun c17 => ?_) (fun c17 => ?_)
        · have h := if_f c17 h
          obtain ⟨v18, e19, h⟩ := lt_some h
          refine wg_iinc (lv' := [(6, .int v18), (0, .ref (ad 0)), (1, .int x1), (2, .int x2), (3, .int x3), (4, .int x4), (5, .int x5)]) X 6 dX8_fewestToBrick_91 rfl e19 (by decide) rfl ?_
          refine wg_goto X 52 dX8_fewestToBrick_94 (by decide) ?_
          refine wg_pick [1, 2, 3, 4, 5, 6, 0] (lv' := [(0, .ref (ad 0)), (1, .int x1), (2, .int x2), (3, .int x3), (4, .int x4), (5, .int x5), (6, .int v18)]) rfl ?_
          exact Kc C16 v18 (sm_inj h).symm
        · have h := if_t c17 h
          refine wg_iload X 6 dX8_fewestToBrick_88 rfl ?_
          have hq := Kr _ (sm_inj h).symm
          exact wg_iret X ⟨(Prod.mk.inj hq).1, (Prod.mk.inj hq).2, rfl⟩ hr dX8_fewestToBrick_90
set_option maxHeartbeats 4000000 in
set_option maxRecDepth 100000 in
theorem L_X8_fewestToBrick_l37 {p : Program} {l : Launch} {e : Env} {s : State} {m : MethodId} {args : Array Value} {below : List Frame} {meth : Method} {c : Code} {E : wg_Ev} {ad : Nat → Nat} {S : wg_Sh} (X : wg_X p s m args meth c cX8_fewestToBrick 7 RX8 E) (hr : meth.sig.returnType = (some .int)) (hS : wg_SC S) (r0 : Int32) (D0 : wg_C) (M : wg_M) (N : Nat)   (x1 : Int32) (x2 : Int32) (x3 : Int32) (x4 : Int32)  : ∀ (n : Nat) (C : wg_C) (x5 : Int32) (o : ((wg_C × Int32) ⊕ (Int32 × wg_C))), lp (fun o => f_X8_fewestToBrick_l37 N  x1 x2 x3 x4 o.1 o.2) n (C, x5) = some o → (∀ (Dy : wg_C) (y5 : Int32), o = Sum.inl (Dy, y5) → G_X8_fewestToBrick p l e s m args below meth c E ad S r0 D0 M 103 Dy M [(0, .ref (ad 0)), (1, .int x1), (2, .int x2), (3, .int x3), (4, .int x4), (5, .int y5)] []) → (∀ q : (Int32 × wg_C), o = Sum.inr q → q = (r0, D0)) → G_X8_fewestToBrick p l e s m args below meth c E ad S r0 D0 M 37 C M [(0, .ref (ad 0)), (1, .int x1), (2, .int x2), (3, .int x3), (4, .int x4), (5, .int x5)] [] := by
  intro n
  induction n with
  | zero => exact fun _ _ o h => (lp_zero h).elim
  | succ n ih =>
    intro C x5 o h K KR
    obtain ⟨o1, hb, h2⟩ := lp_some h
    replace hb : f_X8_fewestToBrick_l37 N  x1 x2 x3 x4 C x5 = some o1 := hb
    clear h
    have Kc : ∀ (Dy : wg_C) (y5 : Int32), o1 = Sum.inl (Dy, y5) → G_X8_fewestToBrick p l e s m args below meth c E ad S r0 D0 M 37 Dy M [(0, .ref (ad 0)), (1, .int x1), (2, .int x2), (3, .int x3), (4, .int x4), (5, .int y5)] [] := fun Dy y5 e1 => by
      subst e1
      exact ih Dy y5 o h2 K KR
    have Ke : ∀ (Dy : wg_C) (y5 : Int32), o1 = Sum.inr (Sum.inl (Dy, y5)) → G_X8_fewestToBrick p l e s m args below meth c E ad S r0 D0 M 103 Dy M [(0, .ref (ad 0)), (1, .int x1), (2, .int x2), (3, .int x3), (4, .int x4), (5, .int y5)] [] := fun Dy y5 e1 => by
      subst e1
      exact K Dy y5 (sm_inj (α := ((wg_C × Int32) ⊕ (Int32 × wg_C))) h2).symm
    have Kr : ∀ q : (Int32 × wg_C), o1 = Sum.inr (Sum.inr q) → q = (r0, D0) := fun q e1 => by
      subst e1
      exact KR q (sm_inj (α := ((wg_C × Int32) ⊕ (Int32 × wg_C))) h2).symm
    clear ih K h2 KR
    unfold f_X8_fewestToBrick_l37 at hb
    have h := hb
    clear hb
    refine wg_iload X 5 dX8_fewestToBrick_37 rfl ?_
    refine wg_aload_n X 0 dX8_fewestToBrick_39 rfl rfl ?_
    refine wg_getR (b := 1) X cl8 (SCi hS 0 8 rfl) 0 (by decide) dX8_fewestToBrick_40 k_472 rfl (SCr hS 0 0 1 rfl) ?_
    refine wg_getC X cl0 (SCi hS 1 0 rfl) 2 (by decide) dX8_fewestToBrick_43 k_147 rfl ?_
    refine wg_icmp_gt X 103 dX8_fewestToBrick_46 (by decide) (fun c7 => ?_) (fun c7 => ?_)
    · have h := if_t c7 h
      exact Ke C x5 (sm_inj h).symm
    · have h := if_f c7 h
      refine wg_iconst (v := 0) X dX8_fewestToBrick_49 (by decide) ?_
      refine wg_istore (lv' := [(6, .int (0 : Int32)), (0, .ref (ad 0)), (1, .int x1), (2, .int x2), (3, .int x3), (4, .int x4), (5, .int x5)]) X dX8_fewestToBrick_50 rfl (by decide) rfl ?_
      obtain ⟨o22, h23, h⟩ := bs2_o h
      refine wg_pick [1, 2, 3, 4, 5, 6, 0] (lv' := [(0, .ref (ad 0)), (1, .int x1), (2, .int x2), (3, .int x3), (4, .int x4), (5, .int x5), (6, .int (0 : Int32))]) rfl ?_
      refine L_X8_fewestToBrick_l52 X hr hS r0 D0 M N   x1 x2 x3 x4 x5  N C (0 : Int32) o22 h23 (fun C20 v21 e25 => ?_) (fun q24 e25 => ?_)
      · subst o22
        replace h := bs2_in h
        obtain ⟨v26, e27, h⟩ := lt_some h
        refine wg_iinc (lv' := [(5, .int v26), (0, .ref (ad 0)), (1, .int x1), (2, .int x2), (3, .int x3), (4, .int x4), (6, .int v21)]) X 5 dX8_fewestToBrick_97 rfl e27 (by decide) rfl ?_
        refine wg_goto X 37 dX8_fewestToBrick_100 (by decide) ?_
        refine wg_pick [1, 2, 3, 4, 5, 0] (lv' := [(0, .ref (ad 0)), (1, .int x1), (2, .int x2), (3, .int x3), (4, .int x4), (5, .int v26)]) rfl ?_
        exact Kc C20 v26 (sm_inj h).symm
      · subst o22
        replace h := bs2_r h
        exact Kr _ (sm_inj h).symm
set_option maxHeartbeats 4000000 in
set_option maxRecDepth 100000 in
theorem c_X8_fewestToBrick (l : Launch) (E : wg_Ev) (ad : Nat → Nat) (S : wg_Sh) (hS : wg_SC S) (N : Nat) (C : wg_C) (M : wg_M) (p1 : Int32) (p2 : Int32) (p3 : Int32)  {r0 : Int32} {D0 : wg_C} (h : f_X8_fewestToBrick N C p1 p2 p3 = some (r0, D0)) : wg_Ci l yX8_fewestToBrick cX8_fewestToBrick 7 (some .int) 6 145 E ad S C M [.ref (ad 0), .int p1, .int p2, .int p3] r0 D0 M := by
  refine wg_start (own := RX8) (by decide +kernel) rfl (Nat.le_of_ble_eq_true rfl) ?_
  intro p e s m below meth c X hr hnm
  refine wg_lv (lv' := [(0, .ref (ad 0)), (1, .int p1), (2, .int p2), (3, .int p3)]) rfl ?_
  unfold f_X8_fewestToBrick at h
  refine wg_iconst (v := 1) X dX8_fewestToBrick_0 (by decide) ?_
  refine wg_aload_n X 0 dX8_fewestToBrick_1 rfl rfl ?_
  refine wg_getR (b := 1) X cl8 (SCi hS 0 8 rfl) 0 (by decide) dX8_fewestToBrick_2 k_472 rfl (SCr hS 0 0 1 rfl) ?_
  refine wg_getC X cl0 (SCi hS 1 0 rfl) 2 (by decide) dX8_fewestToBrick_5 k_147 rfl ?_
  refine wg_ishl X dX8_fewestToBrick_8 ?_
  obtain ⟨v1, e2, h⟩ := lt_some h
  refine wg_istore (lv' := [(4, .int v1), (0, .ref (ad 0)), (1, .int p1), (2, .int p2), (3, .int p3)]) X dX8_fewestToBrick_9 e2 (by decide) rfl ?_
  refine wg_aload_n X 1 dX8_fewestToBrick_11 rfl rfl ?_
  refine wg_getR (b := 35) X cl8 (SCi hS 0 8 rfl) 6 (by decide) dX8_fewestToBrick_12 k_478 rfl (SCr hS 0 6 35 rfl) ?_
  refine wg_aload_n X 1 dX8_fewestToBrick_15 rfl rfl ?_
  refine wg_getR (b := 1) X cl8 (SCi hS 0 8 rfl) 0 (by decide) dX8_fewestToBrick_16 k_472 rfl (SCr hS 0 0 1 rfl) ?_
  refine wg_iload_n X 2 dX8_fewestToBrick_19 rfl rfl ?_
  refine wg_iload_n X 3 dX8_fewestToBrick_20 rfl rfl ?_
  refine wg_iload_n X 4 dX8_fewestToBrick_21 rfl rfl ?_
  refine wg_iload X 0 dX8_fewestToBrick_22 rfl ?_
  refine wg_iconst (v := 1) X dX8_fewestToBrick_24 (by decide) ?_
  refine wg_isub X dX8_fewestToBrick_25 ?_
  obtain ⟨r4, C5, h3, h⟩ := bd2_some h
  refine wg_callVi (As := [.ref (ad 1), .int p1, .int p2, .int p3, .int (v1 - (1 : Int32))]) (rest := []) X (c_X7_comes l E ad S hS N C M p1 p2 p3 (v1 - (1 : Int32))  h3) T_yX7_comes k_688 cl7 (SCi hS 35 7 rfl) dX8_fewestToBrick_26 rfl rfl (Nat.le_of_ble_eq_true rfl) ⟨Nat.le_of_ble_eq_true rfl, Nat.le_of_ble_eq_true rfl⟩ ⟨Nat.zero_le _, Nat.zero_le _⟩ ?_
  refine wg_if_eq X 34 dX8_fewestToBrick_29 (by decide) (fun c6 => ?_) (fun c6 => ?_)
  · have h := if_t c6 h
    refine wg_iconst (v := 0) X dX8_fewestToBrick_34 (by decide) ?_
    refine wg_istore (lv' := [(5, .int (0 : Int32)), (4, .int v1), (0, .ref (ad 0)), (1, .int p1), (2, .int p2), (3, .int p3)]) X dX8_fewestToBrick_35 rfl (by decide) rfl ?_
    obtain ⟨o30, h31, h⟩ := bs2_o h
    refine wg_pick [2, 3, 4, 5, 1, 0] (lv' := [(0, .ref (ad 0)), (1, .int p1), (2, .int p2), (3, .int p3), (4, .int v1), (5, .int (0 : Int32))]) rfl ?_
    refine L_X8_fewestToBrick_l37 X hr hS r0 D0 M N   p1 p2 p3 v1  N C5 (0 : Int32) o30 h31 (fun C28 v29 e33 => ?_) (fun q32 e33 => ?_)
    · subst o30
      replace h := bs2_in h
      refine wg_iconst (v := -1) X dX8_fewestToBrick_103 (by decide) ?_
      exact wg_iret X ⟨(Prod.mk.inj (sm_inj h)).1, (Prod.mk.inj (sm_inj h)).2, rfl⟩ hr dX8_fewestToBrick_104
    · subst o30
      replace h := bs2_r h
      exact sm_inj h
  · have h := if_f c6 h
    refine wg_iconst (v := -1) X dX8_fewestToBrick_32 (by decide) ?_
    exact wg_iret X ⟨(Prod.mk.inj (sm_inj h)).1, (Prod.mk.inj (sm_inj h)).2, rfl⟩ hr dX8_fewestToBrick_33
-- WindowsGive.brick(IIII)I (('c', 0), 'i', 'i', 'i', 'i')
def f_X8_brick (N : Nat) (C : wg_C) (p1 : Int32) (p2 : Int32) (p3 : Int32) (p4 : Int32) : Option (Int32 × wg_C) :=
  bd (f_X8_isSpot p1) fun r2 =>
  if r2 = 0 then (
    some ((-2 : Int32), C))
  else (
    bd (f_X8_isSpot p2) fun r5 =>
    if r5 = 0 then (
      some ((-2 : Int32), C))
    else (
      bd (f_X8_isSort p3) fun r8 =>
      if r8 = 0 then (
        some ((-2 : Int32), C))
      else (
        if p4 < 0 then (
          some ((-2 : Int32), C))
        else (
          if p4 ≤ (1 : Int32) then (
            if p4 = 0 then (
              bd2 (f_X8_fewestToBrick N C p1 p2 p3) fun r17 C18 =>
              some (r17, C18))
            else (
              bd2 (f_X8_neededAlone N C p1 p2 p3) fun r14 C15 =>
              some (r14, C15)))
          else (
            some ((-2 : Int32), C))))))
set_option maxHeartbeats 4000000 in
set_option maxRecDepth 100000 in
theorem c_X8_brick (l : Launch) (E : wg_Ev) (ad : Nat → Nat) (S : wg_Sh) (hS : wg_SC S) (N : Nat) (C : wg_C) (M : wg_M) (p1 : Int32) (p2 : Int32) (p3 : Int32) (p4 : Int32)  {r0 : Int32} {D0 : wg_C} (h : f_X8_brick N C p1 p2 p3 p4 = some (r0, D0)) : wg_Ci l yX8_brick cX8_brick 5 (some .int) 7 171 E ad S C M [.ref (ad 0), .int p1, .int p2, .int p3, .int p4] r0 D0 M := by
  refine wg_start (own := RX8) (by decide +kernel) rfl (Nat.le_of_ble_eq_true rfl) ?_
  intro p e s m below meth c X hr hnm
  refine wg_lv (lv' := [(0, .ref (ad 0)), (1, .int p1), (2, .int p2), (3, .int p3), (4, .int p4)]) rfl ?_
  unfold f_X8_brick at h
  refine wg_iload_n X 1 dX8_brick_0 rfl rfl ?_
  obtain ⟨r2, h1, h⟩ := bd_some h
  refine wg_callSi (As := [.int p1]) (rest := []) X (c_X8_isSpot l E ad S C M p1  h1) T_yX8_isSpot k_587 dX8_brick_1 rfl rfl (Nat.le_of_ble_eq_true rfl) ⟨Nat.le_of_ble_eq_true rfl, Nat.le_of_ble_eq_true rfl⟩ ⟨Nat.zero_le _, Nat.zero_le _⟩ ?_
  refine wg_if_eq X 32 dX8_brick_4 (by decide) (fun c3 => ?_) (fun c3 => ?_)
  · have h := if_t c3 h
    refine wg_bipush (v := -2) X dX8_brick_32 (by decide) ?_
    exact wg_iret X ⟨(Prod.mk.inj (sm_inj h)).1, (Prod.mk.inj (sm_inj h)).2, rfl⟩ hr dX8_brick_34
  · have h := if_f c3 h
    refine wg_iload_n X 2 dX8_brick_7 rfl rfl ?_
    obtain ⟨r5, h4, h⟩ := bd_some h
    refine wg_callSi (As := [.int p2]) (rest := []) X (c_X8_isSpot l E ad S C M p2  h4) T_yX8_isSpot k_587 dX8_brick_8 rfl rfl (Nat.le_of_ble_eq_true rfl) ⟨Nat.le_of_ble_eq_true rfl, Nat.le_of_ble_eq_true rfl⟩ ⟨Nat.zero_le _, Nat.zero_le _⟩ ?_
    refine wg_if_eq X 32 dX8_brick_11 (by decide) (fun c6 => ?_) (fun c6 => ?_)
    · have h := if_t c6 h
      refine wg_bipush (v := -2) X dX8_brick_32 (by decide) ?_
      exact wg_iret X ⟨(Prod.mk.inj (sm_inj h)).1, (Prod.mk.inj (sm_inj h)).2, rfl⟩ hr dX8_brick_34
    · have h := if_f c6 h
      refine wg_iload_n X 3 dX8_brick_14 rfl rfl ?_
      obtain ⟨r8, h7, h⟩ := bd_some h
      refine wg_callSi (As := [.int p3]) (rest := []) X (c_X8_isSort l E ad S C M p3  h7) T_yX8_isSort k_554 dX8_brick_15 rfl rfl (Nat.le_of_ble_eq_true rfl) ⟨Nat.le_of_ble_eq_true rfl, Nat.le_of_ble_eq_true rfl⟩ ⟨Nat.zero_le _, Nat.zero_le _⟩ ?_
      refine wg_if_eq X 32 dX8_brick_18 (by decide) (fun c9 => ?_) (fun c9 => ?_)
      · have h := if_t c9 h
        refine wg_bipush (v := -2) X dX8_brick_32 (by decide) ?_
        exact wg_iret X ⟨(Prod.mk.inj (sm_inj h)).1, (Prod.mk.inj (sm_inj h)).2, rfl⟩ hr dX8_brick_34
      · have h := if_f c9 h
        refine wg_iload X 4 dX8_brick_21 rfl ?_
        refine wg_if_lt X 32 dX8_brick_23 (by decide) (fun c10 => ?_) (fun c10 => ?_)
        · have h := if_t c10 h
          refine wg_bipush (v := -2) X dX8_brick_32 (by decide) ?_
          exact wg_iret X ⟨(Prod.mk.inj (sm_inj h)).1, (Prod.mk.inj (sm_inj h)).2, rfl⟩ hr dX8_brick_34
        · have h := if_f c10 h
          refine wg_iload X 4 dX8_brick_26 rfl ?_
          refine wg_iconst (v := 1) X dX8_brick_28 (by decide) ?_
          refine wg_icmp_le X 35 dX8_brick_29 (by decide) (fun c11 => ?_) (fun c11 => ?_)
          · have h := if_t c11 h
            refine wg_iload X 4 dX8_brick_35 rfl ?_
            refine wg_if_ne X 50 dX8_brick_37 (by decide) (fun c12 => ?_) (fun c12 => ?_)
            · have h := if_f c12 h
              refine wg_aload_n X 0 dX8_brick_50 rfl rfl ?_
              refine wg_iload_n X 1 dX8_brick_51 rfl rfl ?_
              refine wg_iload_n X 2 dX8_brick_52 rfl rfl ?_
              refine wg_iload_n X 3 dX8_brick_53 rfl rfl ?_
              obtain ⟨r14, C15, h13, h⟩ := bd2_some h
              refine wg_callVi (As := [.int p1, .int p2, .int p3]) (rest := []) X (c_X8_neededAlone l E ad S hS N C M p1 p2 p3  h13) T_yX8_neededAlone k_699 cl8 (SCi hS 0 8 rfl) dX8_brick_54 rfl rfl (Nat.le_of_ble_eq_true rfl) ⟨Nat.le_of_ble_eq_true rfl, Nat.le_of_ble_eq_true rfl⟩ ⟨Nat.zero_le _, Nat.zero_le _⟩ ?_
              exact wg_iret X ⟨(Prod.mk.inj (sm_inj h)).1, (Prod.mk.inj (sm_inj h)).2, rfl⟩ hr dX8_brick_57
            · have h := if_t c12 h
              refine wg_aload_n X 0 dX8_brick_40 rfl rfl ?_
              refine wg_iload_n X 1 dX8_brick_41 rfl rfl ?_
              refine wg_iload_n X 2 dX8_brick_42 rfl rfl ?_
              refine wg_iload_n X 3 dX8_brick_43 rfl rfl ?_
              obtain ⟨r17, C18, h16, h⟩ := bd2_some h
              refine wg_callVi (As := [.int p1, .int p2, .int p3]) (rest := []) X (c_X8_fewestToBrick l E ad S hS N C M p1 p2 p3  h16) T_yX8_fewestToBrick k_684 cl8 (SCi hS 0 8 rfl) dX8_brick_44 rfl rfl (Nat.le_of_ble_eq_true rfl) ⟨Nat.le_of_ble_eq_true rfl, Nat.le_of_ble_eq_true rfl⟩ ⟨Nat.zero_le _, Nat.zero_le _⟩ ?_
              refine wg_goto X 57 dX8_brick_47 (by decide) ?_
              exact wg_iret X ⟨(Prod.mk.inj (sm_inj h)).1, (Prod.mk.inj (sm_inj h)).2, rfl⟩ hr dX8_brick_57
          · have h := if_f c11 h
            refine wg_bipush (v := -2) X dX8_brick_32 (by decide) ?_
            exact wg_iret X ⟨(Prod.mk.inj (sm_inj h)).1, (Prod.mk.inj (sm_inj h)).2, rfl⟩ hr dX8_brick_34
-- WindowsGive.isSheet(I)Z ('i',)
def f_X8_isSheet (p0 : Int32) : Option Int32 :=
  if p0 < 0 then (
    some (0 : Int32))
  else (
    if (4 : Int32) ≤ p0 then (
      some (0 : Int32))
    else (
      some (1 : Int32)))
set_option maxHeartbeats 4000000 in
set_option maxRecDepth 100000 in
theorem c_X8_isSheet (l : Launch) (E : wg_Ev) (ad : Nat → Nat) (S : wg_Sh) (C : wg_C) (M : wg_M) (p0 : Int32)  {r0 : Int32} (h : f_X8_isSheet p0 = some r0) : wg_Ci l yX8_isSheet cX8_isSheet 1 (some .boolean) 0 0 E ad S C M [.int p0] r0 C M := by
  refine wg_start (own := RX8) (by decide +kernel) rfl (Nat.le_of_ble_eq_true rfl) ?_
  intro p e s m below meth c X hr hnm
  refine wg_lv (lv' := [(0, .int p0)]) rfl ?_
  unfold f_X8_isSheet at h
  refine wg_iload_n X 0 dX8_isSheet_0 rfl rfl ?_
  refine wg_if_lt X 13 dX8_isSheet_1 (by decide) (fun c1 => ?_) (fun c1 => ?_)
  · have h := if_t c1 h
    refine wg_iconst (v := 0) X dX8_isSheet_13 (by decide) ?_
    exact wg_zret X ⟨(sm_inj h), rfl, rfl⟩ hr (by decide) dX8_isSheet_14
  · have h := if_f c1 h
    refine wg_iload_n X 0 dX8_isSheet_4 rfl rfl ?_
    refine wg_iconst (v := 4) X dX8_isSheet_5 (by decide) ?_
    refine wg_icmp_ge X 13 dX8_isSheet_6 (by decide) (fun c2 => ?_) (fun c2 => ?_)
    · have h := if_t c2 h
      refine wg_iconst (v := 0) X dX8_isSheet_13 (by decide) ?_
      exact wg_zret X ⟨(sm_inj h), rfl, rfl⟩ hr (by decide) dX8_isSheet_14
    · have h := if_f c2 h
      refine wg_iconst (v := 1) X dX8_isSheet_9 (by decide) ?_
      refine wg_goto X 14 dX8_isSheet_10 (by decide) ?_
      exact wg_zret X ⟨(sm_inj h), rfl, rfl⟩ hr (by decide) dX8_isSheet_14
-- WindowsGive$Sheet.isMissing()Z ('SH',)
def f_X4_isMissing (C : wg_C) (p0 : Nat) : Option Int32 :=
  if (C p0 1) = (-1 : Int32) then (
    some (1 : Int32))
  else (
    some (0 : Int32))
set_option maxHeartbeats 4000000 in
set_option maxRecDepth 100000 in
theorem c_X4_isMissing (l : Launch) (E : wg_Ev) (ad : Nat → Nat) (S : wg_Sh) (hS : wg_SC S) (C : wg_C) (M : wg_M) (p0 : Nat) (hp0 : wg_Sht S p0) {r0 : Int32} (h : f_X4_isMissing C p0 = some r0) : wg_Ci l yX4_isMissing cX4_isMissing 1 (some .boolean) 0 0 E ad S C M [.ref (ad p0)] r0 C M := by
  refine wg_start (own := RX4) (by decide +kernel) rfl (Nat.le_of_ble_eq_true rfl) ?_
  intro p e s m below meth c X hr hnm
  refine wg_lv (lv' := [(0, .ref (ad p0))]) rfl ?_
  unfold f_X4_isMissing at h
  refine wg_aload_n X 0 dX4_isMissing_0 rfl rfl ?_
  refine wg_getC X cl4 hp0.1 1 (by decide) dX4_isMissing_1 k_271 rfl ?_
  refine wg_iconst (v := -1) X dX4_isMissing_4 (by decide) ?_
  refine wg_icmp_ne X 12 dX4_isMissing_5 (by decide) (fun c1 => ?_) (fun c1 => ?_)
  · have h := if_f c1 h
    refine wg_iconst (v := 0) X dX4_isMissing_12 (by decide) ?_
    exact wg_zret X ⟨(sm_inj h), rfl, rfl⟩ hr (by decide) dX4_isMissing_13
  · have h := if_t c1 h
    refine wg_iconst (v := 1) X dX4_isMissing_8 (by decide) ?_
    refine wg_goto X 13 dX4_isMissing_9 (by decide) ?_
    exact wg_zret X ⟨(sm_inj h), rfl, rfl⟩ hr (by decide) dX4_isMissing_13
-- WindowsGive.refusalOfLook(IIIII)I (('c', 0), 'i', 'i', 'i', 'i', 'i')
def f_X8_refusalOfLook (C : wg_C) (p1 : Int32) (p2 : Int32) (p3 : Int32) (p4 : Int32) (p5 : Int32) : Option Int32 :=
  bd (f_X8_isSheet p1) fun r2 =>
  if r2 = 0 then (
    some (-2 : Int32))
  else (
    bd (f_X0_has C p2) fun r5 =>
    if r5 = 0 then (
      some (-2 : Int32))
    else (
      bd (f_X8_isDay p3) fun r8 =>
      if r8 = 0 then (
        some (-2 : Int32))
      else (
        if p4 < 0 then (
          some (-2 : Int32))
        else (
          if p4 ≤ p5 then (
            ck (inb p1 4) <|
            bd (f_X4_isMissing C (44 + 2 * p1.toNatClampNeg)) fun r14 =>
            if r14 = 0 then (
              ck (inb p1 4) <|
              if (C (44 + 2 * p1.toNatClampNeg) 2) ≤ (10 : Int32) then (
                some (0 : Int32))
              else (
                some (-2 : Int32)))
            else (
              some (-11 : Int32)))
          else (
            some (-2 : Int32))))))
set_option maxHeartbeats 4000000 in
set_option maxRecDepth 100000 in
theorem c_X8_refusalOfLook (l : Launch) (E : wg_Ev) (ad : Nat → Nat) (S : wg_Sh) (hS : wg_SC S) (C : wg_C) (M : wg_M) (p1 : Int32) (p2 : Int32) (p3 : Int32) (p4 : Int32) (p5 : Int32)  {r0 : Int32} (h : f_X8_refusalOfLook C p1 p2 p3 p4 p5 = some r0) : wg_Ci l yX8_refusalOfLook cX8_refusalOfLook 6 (some .int) 1 21 E ad S C M [.ref (ad 0), .int p1, .int p2, .int p3, .int p4, .int p5] r0 C M := by
  refine wg_start (own := RX8) (by decide +kernel) rfl (Nat.le_of_ble_eq_true rfl) ?_
  intro p e s m below meth c X hr hnm
  refine wg_lv (lv' := [(0, .ref (ad 0)), (1, .int p1), (2, .int p2), (3, .int p3), (4, .int p4), (5, .int p5)]) rfl ?_
  unfold f_X8_refusalOfLook at h
  refine wg_iload_n X 1 dX8_refusalOfLook_0 rfl rfl ?_
  obtain ⟨r2, h1, h⟩ := bd_some h
  refine wg_callSi (As := [.int p1]) (rest := []) X (c_X8_isSheet l E ad S C M p1  h1) T_yX8_isSheet k_711 dX8_refusalOfLook_1 rfl rfl (Nat.le_of_ble_eq_true rfl) ⟨Nat.le_of_ble_eq_true rfl, Nat.le_of_ble_eq_true rfl⟩ ⟨Nat.zero_le _, Nat.zero_le _⟩ ?_
  refine wg_if_eq X 37 dX8_refusalOfLook_4 (by decide) (fun c3 => ?_) (fun c3 => ?_)
  · have h := if_t c3 h
    refine wg_bipush (v := -2) X dX8_refusalOfLook_37 (by decide) ?_
    exact wg_iret X ⟨(sm_inj h), rfl, rfl⟩ hr dX8_refusalOfLook_39
  · have h := if_f c3 h
    refine wg_aload_n X 0 dX8_refusalOfLook_7 rfl rfl ?_
    refine wg_getR (b := 1) X cl8 (SCi hS 0 8 rfl) 0 (by decide) dX8_refusalOfLook_8 k_472 rfl (SCr hS 0 0 1 rfl) ?_
    refine wg_iload_n X 2 dX8_refusalOfLook_11 rfl rfl ?_
    obtain ⟨r5, h4, h⟩ := bd_some h
    refine wg_callVi (As := [.int p2]) (rest := []) X (c_X0_has l E ad S hS C M p2  h4) T_yX0_has k_520 cl0 (SCi hS 1 0 rfl) dX8_refusalOfLook_12 rfl rfl (Nat.le_of_ble_eq_true rfl) ⟨Nat.le_of_ble_eq_true rfl, Nat.le_of_ble_eq_true rfl⟩ ⟨Nat.zero_le _, Nat.zero_le _⟩ ?_
    refine wg_if_eq X 37 dX8_refusalOfLook_15 (by decide) (fun c6 => ?_) (fun c6 => ?_)
    · have h := if_t c6 h
      refine wg_bipush (v := -2) X dX8_refusalOfLook_37 (by decide) ?_
      exact wg_iret X ⟨(sm_inj h), rfl, rfl⟩ hr dX8_refusalOfLook_39
    · have h := if_f c6 h
      refine wg_iload_n X 3 dX8_refusalOfLook_18 rfl rfl ?_
      obtain ⟨r8, h7, h⟩ := bd_some h
      refine wg_callSi (As := [.int p3]) (rest := []) X (c_X8_isDay l E ad S C M p3  h7) T_yX8_isDay k_517 dX8_refusalOfLook_19 rfl rfl (Nat.le_of_ble_eq_true rfl) ⟨Nat.le_of_ble_eq_true rfl, Nat.le_of_ble_eq_true rfl⟩ ⟨Nat.zero_le _, Nat.zero_le _⟩ ?_
      refine wg_if_eq X 37 dX8_refusalOfLook_22 (by decide) (fun c9 => ?_) (fun c9 => ?_)
      · have h := if_t c9 h
        refine wg_bipush (v := -2) X dX8_refusalOfLook_37 (by decide) ?_
        exact wg_iret X ⟨(sm_inj h), rfl, rfl⟩ hr dX8_refusalOfLook_39
      · have h := if_f c9 h
        refine wg_iload X 4 dX8_refusalOfLook_25 rfl ?_
        refine wg_if_lt X 37 dX8_refusalOfLook_27 (by decide) (fun c10 => ?_) (fun c10 => ?_)
        · have h := if_t c10 h
          refine wg_bipush (v := -2) X dX8_refusalOfLook_37 (by decide) ?_
          exact wg_iret X ⟨(sm_inj h), rfl, rfl⟩ hr dX8_refusalOfLook_39
        · have h := if_f c10 h
          refine wg_iload X 4 dX8_refusalOfLook_30 rfl ?_
          refine wg_iload X 5 dX8_refusalOfLook_32 rfl ?_
          refine wg_icmp_le X 40 dX8_refusalOfLook_34 (by decide) (fun c11 => ?_) (fun c11 => ?_)
          · have h := if_t c11 h
            refine wg_aload_n X 0 dX8_refusalOfLook_40 rfl rfl ?_
            refine wg_getR (b := 39) X cl8 (SCi hS 0 8 rfl) 7 (by decide) dX8_refusalOfLook_41 k_479 rfl (SCr hS 0 7 39 rfl) ?_
            refine wg_iload_n X 1 dX8_refusalOfLook_44 rfl rfl ?_
            obtain ⟨z12, h⟩ := ck_some h
            refine wg_aalS14 (b := 44 + 2 * p1.toNatClampNeg) X (SCi hS 39 14 rfl) (SCl hS 39 4 rfl) z12 (SCs hS (inb_lt z12)).1 dX8_refusalOfLook_45 ?_
            obtain ⟨r14, h13, h⟩ := bd_some h
            refine wg_callVi (As := []) (rest := []) X (c_X4_isMissing l E ad S hS C M (44 + 2 * p1.toNatClampNeg) ((SCs hS (inb_lt z12)).2) h13) T_yX4_isMissing k_714 cl4 ((SCs hS (inb_lt z12)).2.1) dX8_refusalOfLook_46 rfl rfl (Nat.le_of_ble_eq_true rfl) ⟨Nat.le_of_ble_eq_true rfl, Nat.le_of_ble_eq_true rfl⟩ ⟨Nat.zero_le _, Nat.zero_le _⟩ ?_
            refine wg_if_eq X 55 dX8_refusalOfLook_49 (by decide) (fun c15 => ?_) (fun c15 => ?_)
            · have h := if_t c15 h
              refine wg_aload_n X 0 dX8_refusalOfLook_55 rfl rfl ?_
              refine wg_getR (b := 39) X cl8 (SCi hS 0 8 rfl) 7 (by decide) dX8_refusalOfLook_56 k_479 rfl (SCr hS 0 7 39 rfl) ?_
              refine wg_iload_n X 1 dX8_refusalOfLook_59 rfl rfl ?_
              obtain ⟨z16, h⟩ := ck_some h
              refine wg_aalS14 (b := 44 + 2 * p1.toNatClampNeg) X (SCi hS 39 14 rfl) (SCl hS 39 4 rfl) z16 (SCs hS (inb_lt z16)).1 dX8_refusalOfLook_60 ?_
              refine wg_getC X cl4 (SCs hS (inb_lt z16)).2.1 2 (by decide) dX8_refusalOfLook_61 k_274 rfl ?_
              refine wg_bipush (v := 10) X dX8_refusalOfLook_64 (by decide) ?_
              refine wg_icmp_le X 74 dX8_refusalOfLook_66 (by decide) (fun c17 => ?_) (fun c17 => ?_)
              · have h := if_t c17 h
                refine wg_iconst (v := 0) X dX8_refusalOfLook_74 (by decide) ?_
                exact wg_iret X ⟨(sm_inj h), rfl, rfl⟩ hr dX8_refusalOfLook_75
              · have h := if_f c17 h
                refine wg_bipush (v := -2) X dX8_refusalOfLook_69 (by decide) ?_
                refine wg_goto X 75 dX8_refusalOfLook_71 (by decide) ?_
                exact wg_iret X ⟨(sm_inj h), rfl, rfl⟩ hr dX8_refusalOfLook_75
            · have h := if_f c15 h
              refine wg_bipush (v := -11) X dX8_refusalOfLook_52 (by decide) ?_
              exact wg_iret X ⟨(sm_inj h), rfl, rfl⟩ hr dX8_refusalOfLook_54
          · have h := if_f c11 h
            refine wg_bipush (v := -2) X dX8_refusalOfLook_37 (by decide) ?_
            exact wg_iret X ⟨(sm_inj h), rfl, rfl⟩ hr dX8_refusalOfLook_39
-- WindowsGive$Pane.become(LWindowsGive$Pane;)V ('P', 'P')
def f_X1_become (C : wg_C) (p0 : Nat) (p1 : Nat) : Option wg_C :=
  lt_ (wg_up C p0 1 (C p1 1)) fun C1 =>
  lt_ (wg_up C1 p0 2 (C1 p1 2)) fun C3 =>
  lt_ (wg_up C3 p0 3 (C3 p1 3)) fun C5 =>
  lt_ (wg_up C5 p0 4 (C5 p1 4)) fun C7 =>
  lt_ (wg_up C7 p0 5 (C7 p1 5)) fun C9 =>
  some C9
set_option maxHeartbeats 4000000 in
set_option maxRecDepth 100000 in
theorem c_X1_become (l : Launch) (E : wg_Ev) (ad : Nat → Nat) (S : wg_Sh) (hS : wg_SC S) (C : wg_C) (M : wg_M) (p0 : Nat) (p1 : Nat) (hp0 : wg_id S p0 1) (hp1 : wg_id S p1 1) {D0 : wg_C} (h : f_X1_become C p0 p1 = some D0) : wg_Cv l yX1_become cX1_become 2 none 0 0 E ad S C M [.ref (ad p0), .ref (ad p1)] D0 M := by
  refine wg_start (own := RX1) (by decide +kernel) rfl (Nat.le_of_ble_eq_true rfl) ?_
  intro p e s m below meth c X hr hnm
  refine wg_lv (lv' := [(0, .ref (ad p0)), (1, .ref (ad p1))]) rfl ?_
  unfold f_X1_become at h
  refine wg_aload_n X 0 dX1_become_0 rfl rfl ?_
  refine wg_aload_n X 1 dX1_become_1 rfl rfl ?_
  refine wg_getC X cl1 hp1 1 (by decide) dX1_become_2 k_112 rfl ?_
  obtain ⟨C1, e2, h⟩ := lt_some h
  refine wg_putCe X cl1 hp0 1 (by decide) dX1_become_5 k_112 rfl rfl rfl rfl e2 ?_
  refine wg_aload_n X 0 dX1_become_8 rfl rfl ?_
  refine wg_aload_n X 1 dX1_become_9 rfl rfl ?_
  refine wg_getC X cl1 hp1 2 (by decide) dX1_become_10 k_114 rfl ?_
  obtain ⟨C3, e4, h⟩ := lt_some h
  refine wg_putCe X cl1 hp0 2 (by decide) dX1_become_13 k_114 rfl rfl rfl rfl e4 ?_
  refine wg_aload_n X 0 dX1_become_16 rfl rfl ?_
  refine wg_aload_n X 1 dX1_become_17 rfl rfl ?_
  refine wg_getC X cl1 hp1 3 (by decide) dX1_become_18 k_117 rfl ?_
  obtain ⟨C5, e6, h⟩ := lt_some h
  refine wg_putCe X cl1 hp0 3 (by decide) dX1_become_21 k_117 rfl rfl rfl rfl e6 ?_
  refine wg_aload_n X 0 dX1_become_24 rfl rfl ?_
  refine wg_aload_n X 1 dX1_become_25 rfl rfl ?_
  refine wg_getC X cl1 hp1 4 (by decide) dX1_become_26 k_120 rfl ?_
  obtain ⟨C7, e8, h⟩ := lt_some h
  refine wg_putCe X cl1 hp0 4 (by decide) dX1_become_29 k_120 rfl rfl rfl rfl e8 ?_
  refine wg_aload_n X 0 dX1_become_32 rfl rfl ?_
  refine wg_aload_n X 1 dX1_become_33 rfl rfl ?_
  refine wg_getC X cl1 hp1 5 (by decide) dX1_become_34 k_124 rfl ?_
  obtain ⟨C9, e10, h⟩ := lt_some h
  refine wg_putCe X cl1 hp0 5 (by decide) dX1_become_37 k_124 rfl rfl rfl rfl e10 ?_
  exact wg_vret X ⟨(sm_inj h), rfl⟩ hr dX1_become_40
-- WindowsGive$House.shows(LWindowsGive$Pane;I)I (('c', 1), 'P', 'i')
def f_X0_shows (C : wg_C) (p1 : Nat) (p2 : Int32) : Option Int32 :=
  bd (f_X8_isDay p2) fun r2 =>
  if r2 = 0 then (
    some (-1 : Int32))
  else (
    bd (f_X1_passes C p1 p2 (0 : Int32)) fun r5 =>
    if r5 = 0 then (
      some (-1 : Int32))
    else (
      bd (f_X1_on C p1 p2) fun r8 =>
      ck (inb r8 32) <|
      some (C 2 r8.toNatClampNeg)))
set_option maxHeartbeats 4000000 in
set_option maxRecDepth 100000 in
theorem c_X0_shows (l : Launch) (E : wg_Ev) (ad : Nat → Nat) (S : wg_Sh) (hS : wg_SC S) (C : wg_C) (M : wg_M) (p1 : Nat) (p2 : Int32) (hp1 : wg_id S p1 1) {r0 : Int32} (h : f_X0_shows C p1 p2 = some r0) : wg_Ci l yX0_shows cX0_shows 3 (some .int) 2 44 E ad S C M [.ref (ad 1), .ref (ad p1), .int p2] r0 C M := by
  refine wg_start (own := RX0) (by decide +kernel) rfl (Nat.le_of_ble_eq_true rfl) ?_
  intro p e s m below meth c X hr hnm
  refine wg_lv (lv' := [(0, .ref (ad 1)), (1, .ref (ad p1)), (2, .int p2)]) rfl ?_
  unfold f_X0_shows at h
  refine wg_iload_n X 2 dX0_shows_0 rfl rfl ?_
  obtain ⟨r2, h1, h⟩ := bd_some h
  refine wg_callNi (host := "WindowsGive") (As := [.int p2]) (rest := []) X (c_X8_isDay l E ad S C M p2  h1) T_yX8_isDay (by simp [wg_nest]) dX0_shows_1 rfl rfl (Nat.le_of_ble_eq_true rfl) ⟨Nat.le_of_ble_eq_true rfl, Nat.le_of_ble_eq_true rfl⟩ ⟨Nat.zero_le _, Nat.zero_le _⟩ ?_
  refine wg_if_eq X 29 dX0_shows_4 (by decide) (fun c3 => ?_) (fun c3 => ?_)
  · have h := if_t c3 h
    refine wg_iconst (v := -1) X dX0_shows_29 (by decide) ?_
    exact wg_iret X ⟨(sm_inj h), rfl, rfl⟩ hr dX0_shows_30
  · have h := if_f c3 h
    refine wg_aload_n X 1 dX0_shows_7 rfl rfl ?_
    refine wg_iload_n X 2 dX0_shows_8 rfl rfl ?_
    refine wg_iconst (v := 0) X dX0_shows_9 (by decide) ?_
    obtain ⟨r5, h4, h⟩ := bd_some h
    refine wg_callVi (As := [.int p2, .int (0 : Int32)]) (rest := []) X (c_X1_passes l E ad S hS C M p1 p2 (0 : Int32) hp1 h4) T_yX1_passes k_727 cl1 hp1 dX0_shows_10 rfl rfl (Nat.le_of_ble_eq_true rfl) ⟨Nat.le_of_ble_eq_true rfl, Nat.le_of_ble_eq_true rfl⟩ ⟨Nat.zero_le _, Nat.zero_le _⟩ ?_
    refine wg_if_eq X 29 dX0_shows_13 (by decide) (fun c6 => ?_) (fun c6 => ?_)
    · have h := if_t c6 h
      refine wg_iconst (v := -1) X dX0_shows_29 (by decide) ?_
      exact wg_iret X ⟨(sm_inj h), rfl, rfl⟩ hr dX0_shows_30
    · have h := if_f c6 h
      refine wg_aload_n X 0 dX0_shows_16 rfl rfl ?_
      refine wg_getR (b := 2) X cl0 (SCi hS 1 0 rfl) 0 (by decide) dX0_shows_17 k_140 rfl (SCr hS 1 0 2 rfl) ?_
      refine wg_aload_n X 1 dX0_shows_20 rfl rfl ?_
      refine wg_iload_n X 2 dX0_shows_21 rfl rfl ?_
      obtain ⟨r8, h7, h⟩ := bd_some h
      refine wg_callVi (As := [.int p2]) (rest := [.ref (ad 2)]) X (c_X1_on l E ad S hS C M p1 p2 hp1 h7) T_yX1_on k_728 cl1 hp1 dX0_shows_22 rfl rfl (Nat.le_of_ble_eq_true rfl) ⟨Nat.le_of_ble_eq_true rfl, Nat.le_of_ble_eq_true rfl⟩ ⟨Nat.zero_le _, Nat.zero_le _⟩ ?_
      obtain ⟨z9, h⟩ := ck_some h
      refine wg_iald X (SCi hS 2 10 rfl) (SCl hS 2 32 rfl) z9 dX0_shows_25 ?_
      refine wg_goto X 30 dX0_shows_26 (by decide) ?_
      exact wg_iret X ⟨(sm_inj h), rfl, rfl⟩ hr dX0_shows_30
-- WindowsGive.firstOther(LWindowsGive$Sheet;LWindowsGive$Pane;I)I (('c', 0), 'SH', 'P', 'i')
def f_X8_firstOther_l3 (N : Nat) (p1 : Nat) (p2 : Nat) (C : wg_C)  (x3 : Int32) (x4 : Int32) : Option ((Int32) ⊕ ((Int32) ⊕ Int32)) :=
  if (C p1 2) ≤ x4 then (
    some (.inr (.inl x4)))
  else (
    ck (inb x4 40) <|
    bd (f_X0_shows C p2 (x3 + x4)) fun r4 =>
    if (C (p1 + 1) x4.toNatClampNeg) = r4 then (
      lt_ (x4 + (1 : Int32)) fun v6 =>
      some (.inl v6))
    else (
      some (.inr (.inr x4))))
def f_X8_firstOther (N : Nat) (C : wg_C) (p1 : Nat) (p2 : Nat) (p3 : Int32) : Option Int32 :=
  bs1 (lp (fun o => f_X8_firstOther_l3 N p1 p2 C  p3 o) N (0 : Int32)) (fun v8 =>
    some (-1 : Int32))
    (fun q11 => some q11)
abbrev G_X8_firstOther (p : Program) (l : Launch) (e : Env) (s : State) (m : MethodId) (args : Array Value) (below : List Frame) (meth : Method) (c : Code) (E : wg_Ev) (ad : Nat → Nat) (S : wg_Sh) (r0 : Int32) (C0 : wg_C) (M0 : wg_M) (pc : Nat) (C : wg_C) (M : wg_M) (lv : List (Nat × Value)) (st : List Value) : Prop := wg_G p l e (wg_Rm 3 66) s m args below meth c (MQ below (wg_Qi E ad S r0 C0 M0) args s 0 0 (wg_A E)) 5 E ad S 0 0 pc C M lv st
set_option maxHeartbeats 4000000 in
set_option maxRecDepth 100000 in
theorem L_X8_firstOther_l3 {p : Program} {l : Launch} {e : Env} {s : State} {m : MethodId} {args : Array Value} {below : List Frame} {meth : Method} {c : Code} {E : wg_Ev} {ad : Nat → Nat} {S : wg_Sh} (X : wg_X p s m args meth c cX8_firstOther 5 RX8 E) (hr : meth.sig.returnType = (some .int)) (hS : wg_SC S) (r0 : Int32) (M : wg_M) (N : Nat) (p1 : Nat) (hp1 : wg_Sht S p1) (p2 : Nat) (hp2 : wg_id S p2 1) (C : wg_C)  (x3 : Int32)  : ∀ (n : Nat) (x4 : Int32) (o : ((Int32) ⊕ Int32)), lp (fun o => f_X8_firstOther_l3 N p1 p2 C  x3 o) n x4 = some o → (∀ (y4 : Int32), o = Sum.inl y4 → G_X8_firstOther p l e s m args below meth c E ad S r0 C M 43 C M [(0, .ref (ad 0)), (1, .ref (ad p1)), (2, .ref (ad p2)), (3, .int x3), (4, .int y4)] []) → (∀ q : Int32, o = Sum.inr q → q = r0) → G_X8_firstOther p l e s m args below meth c E ad S r0 C M 3 C M [(0, .ref (ad 0)), (1, .ref (ad p1)), (2, .ref (ad p2)), (3, .int x3), (4, .int x4)] [] := by
  intro n
  induction n with
  | zero => exact fun _ o h => (lp_zero h).elim
  | succ n ih =>
    intro x4 o h K KR
    obtain ⟨o1, hb, h2⟩ := lp_some h
    replace hb : f_X8_firstOther_l3 N p1 p2 C  x3 x4 = some o1 := hb
    clear h
    have Kc : ∀ (y4 : Int32), o1 = Sum.inl y4 → G_X8_firstOther p l e s m args below meth c E ad S r0 C M 3 C M [(0, .ref (ad 0)), (1, .ref (ad p1)), (2, .ref (ad p2)), (3, .int x3), (4, .int y4)] [] := fun y4 e1 => by
      subst e1
      exact ih y4 o h2 K KR
    have Ke : ∀ (y4 : Int32), o1 = Sum.inr (Sum.inl y4) → G_X8_firstOther p l e s m args below meth c E ad S r0 C M 43 C M [(0, .ref (ad 0)), (1, .ref (ad p1)), (2, .ref (ad p2)), (3, .int x3), (4, .int y4)] [] := fun y4 e1 => by
      subst e1
      exact K y4 (sm_inj (α := ((Int32) ⊕ Int32)) h2).symm
    have Kr : ∀ q : Int32, o1 = Sum.inr (Sum.inr q) → q = r0 := fun q e1 => by
      subst e1
      exact KR q (sm_inj (α := ((Int32) ⊕ Int32)) h2).symm
    clear ih K h2 KR
    unfold f_X8_firstOther_l3 at hb
    have h := hb
    clear hb
    refine wg_iload X 4 dX8_firstOther_3 rfl ?_
    refine wg_aload_n X 1 dX8_firstOther_5 rfl rfl ?_
    refine wg_getC X cl4 hp1.1 2 (by decide) dX8_firstOther_6 k_274 rfl ?_
    refine wg_icmp_ge X 43 dX8_firstOther_9 (by decide) (fun c1 => ?_) (fun c1 => ?_)
    · have h := if_t c1 h
      exact Ke x4 (sm_inj h).symm
    · have h := if_f c1 h
      refine wg_aload_n X 1 dX8_firstOther_12 rfl rfl ?_
      refine wg_getR (b := (p1 + 1)) X cl4 hp1.1 0 (by decide) dX8_firstOther_13 k_270 rfl hp1.2.1 ?_
      refine wg_iload X 4 dX8_firstOther_16 rfl ?_
      obtain ⟨z2, h⟩ := ck_some h
      refine wg_iald X hp1.2.2.1 hp1.2.2.2 z2 dX8_firstOther_18 ?_
      refine wg_aload_n X 0 dX8_firstOther_19 rfl rfl ?_
      refine wg_getR (b := 1) X cl8 (SCi hS 0 8 rfl) 0 (by decide) dX8_firstOther_20 k_472 rfl (SCr hS 0 0 1 rfl) ?_
      refine wg_aload_n X 2 dX8_firstOther_23 rfl rfl ?_
      refine wg_iload_n X 3 dX8_firstOther_24 rfl rfl ?_
      refine wg_iload X 4 dX8_firstOther_25 rfl ?_
      refine wg_iadd X dX8_firstOther_27 ?_
      obtain ⟨r4, h3, h⟩ := bd_some h
      refine wg_callVi (As := [.ref (ad p2), .int (x3 + x4)]) (rest := [.int (C (p1 + 1) x4.toNatClampNeg)]) X (c_X0_shows l E ad S hS C M p2 (x3 + x4) hp2 h3) T_yX0_shows k_722 cl0 (SCi hS 1 0 rfl) dX8_firstOther_28 rfl rfl (Nat.le_of_ble_eq_true rfl) ⟨Nat.le_of_ble_eq_true rfl, Nat.le_of_ble_eq_true rfl⟩ ⟨Nat.zero_le _, Nat.zero_le _⟩ ?_
      refine wg_icmp_eq X 37 dX8_firstOther_31 (by decide) (fun c5 => ?_) (fun c5 => ?_)
      · have h := if_t c5 h
        obtain ⟨v6, e7, h⟩ := lt_some h
        refine wg_iinc (lv' := [(4, .int v6), (0, .ref (ad 0)), (1, .ref (ad p1)), (2, .ref (ad p2)), (3, .int x3)]) X 4 dX8_firstOther_37 rfl e7 (by decide) rfl ?_
        refine wg_goto X 3 dX8_firstOther_40 (by decide) ?_
        refine wg_pick [1, 2, 3, 4, 0] (lv' := [(0, .ref (ad 0)), (1, .ref (ad p1)), (2, .ref (ad p2)), (3, .int x3), (4, .int v6)]) rfl ?_
        exact Kc v6 (sm_inj h).symm
      · have h := if_f c5 h
        refine wg_iload X 4 dX8_firstOther_34 rfl ?_
        have hq := Kr _ (sm_inj h).symm
        exact wg_iret X ⟨hq, rfl, rfl⟩ hr dX8_firstOther_36
set_option maxHeartbeats 4000000 in
set_option maxRecDepth 100000 in
theorem c_X8_firstOther (l : Launch) (E : wg_Ev) (ad : Nat → Nat) (S : wg_Sh) (hS : wg_SC S) (N : Nat) (C : wg_C) (M : wg_M) (p1 : Nat) (p2 : Nat) (p3 : Int32) (hp1 : wg_Sht S p1) (hp2 : wg_id S p2 1) {r0 : Int32} (h : f_X8_firstOther N C p1 p2 p3 = some r0) : wg_Ci l yX8_firstOther cX8_firstOther 5 (some .int) 3 66 E ad S C M [.ref (ad 0), .ref (ad p1), .ref (ad p2), .int p3] r0 C M := by
  refine wg_start (own := RX8) (by decide +kernel) rfl (Nat.le_of_ble_eq_true rfl) ?_
  intro p e s m below meth c X hr hnm
  refine wg_lv (lv' := [(0, .ref (ad 0)), (1, .ref (ad p1)), (2, .ref (ad p2)), (3, .int p3)]) rfl ?_
  unfold f_X8_firstOther at h
  refine wg_iconst (v := 0) X dX8_firstOther_0 (by decide) ?_
  refine wg_istore (lv' := [(4, .int (0 : Int32)), (0, .ref (ad 0)), (1, .ref (ad p1)), (2, .ref (ad p2)), (3, .int p3)]) X dX8_firstOther_1 rfl (by decide) rfl ?_
  obtain ⟨o9, h10, h⟩ := bs1_o h
  refine wg_pick [1, 2, 3, 4, 0] (lv' := [(0, .ref (ad 0)), (1, .ref (ad p1)), (2, .ref (ad p2)), (3, .int p3), (4, .int (0 : Int32))]) rfl ?_
  refine L_X8_firstOther_l3 X hr hS r0 M N p1 hp1 p2 hp2 C  p3  N (0 : Int32) o9 h10 (fun v8 e12 => ?_) (fun q11 e12 => ?_)
  · subst o9
    replace h := bs1_in h
    refine wg_iconst (v := -1) X dX8_firstOther_43 (by decide) ?_
    exact wg_iret X ⟨(sm_inj h), rfl, rfl⟩ hr dX8_firstOther_44
  · subst o9
    replace h := bs1_r h
    exact sm_inj h
-- WindowsGive.fittingKinds(LWindowsGive$Sheet;LWindowsGive$Pane;I)I (('c', 0), 'SH', 'P', 'i')
def f_X8_fittingKinds_l14 (N : Nat) (p1 : Nat) (p2 : Nat)  (x3 : Int32) (C : wg_C) (x4 : Int32) (x5 : Int32) : Option ((wg_C × Int32 × Int32) ⊕ (wg_C × Int32 × Int32)) :=
  if (5 : Int32) < x5 then (
    some (.inr (C, x4, x5)))
  else (
    lt_ (wg_up C 40 1 x5) fun C4 =>
    bd (f_X8_firstOther N C4 p1 40 x3) fun r7 =>
    if r7 = (-1 : Int32) then (
      lt_ (x4 ||| ((1 : Int32) <<< (x5 &&& 31))) fun v11 =>
      lt_ (x5 + (1 : Int32)) fun v13 =>
      some (.inl (C4, v11, v13)))
    else (
      lt_ (x5 + (1 : Int32)) fun v9 =>
      some (.inl (C4, x4, v9))))
def f_X8_fittingKinds (N : Nat) (C : wg_C) (p1 : Nat) (p2 : Nat) (p3 : Int32) : Option (Int32 × wg_C) :=
  bd (f_X1_become C 40 p2) fun C2 =>
  bd3 (lp (fun o => f_X8_fittingKinds_l14 N p1 p2  p3 o.1 o.2.1 o.2.2) N (C2, (0 : Int32), (0 : Int32))) fun C15 v16 v17 =>
  some (v16, C15)
abbrev G_X8_fittingKinds (p : Program) (l : Launch) (e : Env) (s : State) (m : MethodId) (args : Array Value) (below : List Frame) (meth : Method) (c : Code) (E : wg_Ev) (ad : Nat → Nat) (S : wg_Sh) (r0 : Int32) (C0 : wg_C) (M0 : wg_M) (pc : Nat) (C : wg_C) (M : wg_M) (lv : List (Nat × Value)) (st : List Value) : Prop := wg_G p l e (wg_Rm 4 90) s m args below meth c (MQ below (wg_Qi E ad S r0 C0 M0) args s 0 0 (wg_A E)) 6 E ad S 0 0 pc C M lv st
set_option maxHeartbeats 4000000 in
set_option maxRecDepth 100000 in
theorem L_X8_fittingKinds_l14 {p : Program} {l : Launch} {e : Env} {s : State} {m : MethodId} {args : Array Value} {below : List Frame} {meth : Method} {c : Code} {E : wg_Ev} {ad : Nat → Nat} {S : wg_Sh} (X : wg_X p s m args meth c cX8_fittingKinds 6 RX8 E) (hr : meth.sig.returnType = (some .int)) (hS : wg_SC S) (r0 : Int32) (D0 : wg_C) (M : wg_M) (N : Nat) (p1 : Nat) (hp1 : wg_Sht S p1) (p2 : Nat) (hp2 : wg_id S p2 1)  (x3 : Int32)  : ∀ (n : Nat) (C : wg_C) (x4 : Int32) (x5 : Int32) (o : (wg_C × Int32 × Int32)), lp (fun o => f_X8_fittingKinds_l14 N p1 p2  x3 o.1 o.2.1 o.2.2) n (C, x4, x5) = some o → (∀ (Dy : wg_C) (y4 : Int32) (y5 : Int32), o = (Dy, y4, y5) → G_X8_fittingKinds p l e s m args below meth c E ad S r0 D0 M 58 Dy M [(0, .ref (ad 0)), (1, .ref (ad p1)), (3, .int x3), (4, .int y4), (5, .int y5)] []) → G_X8_fittingKinds p l e s m args below meth c E ad S r0 D0 M 14 C M [(0, .ref (ad 0)), (1, .ref (ad p1)), (3, .int x3), (4, .int x4), (5, .int x5)] [] := by
  intro n
  induction n with
  | zero => exact fun _ _ _ o h => (lp_zero h).elim
  | succ n ih =>
    intro C x4 x5 o h K
    obtain ⟨o1, hb, h2⟩ := lp_some h
    replace hb : f_X8_fittingKinds_l14 N p1 p2  x3 C x4 x5 = some o1 := hb
    clear h
    have Kc : ∀ (Dy : wg_C) (y4 : Int32) (y5 : Int32), o1 = Sum.inl (Dy, y4, y5) → G_X8_fittingKinds p l e s m args below meth c E ad S r0 D0 M 14 Dy M [(0, .ref (ad 0)), (1, .ref (ad p1)), (3, .int x3), (4, .int y4), (5, .int y5)] [] := fun Dy y4 y5 e1 => by
      subst e1
      exact ih Dy y4 y5 o h2 K
    have Ke : ∀ (Dy : wg_C) (y4 : Int32) (y5 : Int32), o1 = Sum.inr ((Dy, y4, y5)) → G_X8_fittingKinds p l e s m args below meth c E ad S r0 D0 M 58 Dy M [(0, .ref (ad 0)), (1, .ref (ad p1)), (3, .int x3), (4, .int y4), (5, .int y5)] [] := fun Dy y4 y5 e1 => by
      subst e1
      exact K Dy y4 y5 (sm_inj (α := (wg_C × Int32 × Int32)) h2).symm
    clear ih K h2
    unfold f_X8_fittingKinds_l14 at hb
    have h := hb
    clear hb
    refine wg_iload X 4 dX8_fittingKinds_14 rfl ?_
    refine wg_iconst (v := 5) X dX8_fittingKinds_16 (by decide) ?_
    refine wg_icmp_gt X 58 dX8_fittingKinds_17 (by decide) (fun c3 => ?_) (fun c3 => ?_)
    · have h := if_t c3 h
      exact Ke C x4 x5 (sm_inj h).symm
    · have h := if_f c3 h
      refine wg_aload_n X 0 dX8_fittingKinds_20 rfl rfl ?_
      refine wg_getR (b := 40) X cl8 (SCi hS 0 8 rfl) 8 (by decide) dX8_fittingKinds_21 k_480 rfl (SCr hS 0 8 40 rfl) ?_
      refine wg_iload X 4 dX8_fittingKinds_24 rfl ?_
      obtain ⟨C4, e5, h⟩ := lt_some h
      refine wg_putCe X cl1 (SCi hS 40 1 rfl) 1 (by decide) dX8_fittingKinds_26 k_113 rfl rfl rfl rfl e5 ?_
      refine wg_aload_n X 0 dX8_fittingKinds_29 rfl rfl ?_
      refine wg_aload_n X 1 dX8_fittingKinds_30 rfl rfl ?_
      refine wg_aload_n X 0 dX8_fittingKinds_31 rfl rfl ?_
      refine wg_getR (b := 40) X cl8 (SCi hS 0 8 rfl) 8 (by decide) dX8_fittingKinds_32 k_480 rfl (SCr hS 0 8 40 rfl) ?_
      refine wg_iload_n X 2 dX8_fittingKinds_35 rfl rfl ?_
      obtain ⟨r7, h6, h⟩ := bd_some h
      refine wg_callVi (As := [.ref (ad p1), .ref (ad 40), .int x3]) (rest := []) X (c_X8_firstOther l E ad S hS N C4 M p1 40 x3 hp1 (SCi hS 40 1 rfl) h6) T_yX8_firstOther k_718 cl8 (SCi hS 0 8 rfl) dX8_fittingKinds_36 rfl rfl (Nat.le_of_ble_eq_true rfl) ⟨Nat.le_of_ble_eq_true rfl, Nat.le_of_ble_eq_true rfl⟩ ⟨Nat.zero_le _, Nat.zero_le _⟩ ?_
      refine wg_iconst (v := -1) X dX8_fittingKinds_39 (by decide) ?_
      refine wg_icmp_ne X 52 dX8_fittingKinds_40 (by decide) (fun c8 => ?_) (fun c8 => ?_)
      · have h := if_f c8 h
        obtain ⟨v9, e10, h⟩ := lt_some h
        refine wg_iinc (lv' := [(5, .int v9), (0, .ref (ad 0)), (1, .ref (ad p1)), (3, .int x3), (4, .int x4)]) X 4 dX8_fittingKinds_52 rfl e10 (by decide) rfl ?_
        refine wg_goto X 14 dX8_fittingKinds_55 (by decide) ?_
        refine wg_pick [1, 2, 3, 4, 0] (lv' := [(0, .ref (ad 0)), (1, .ref (ad p1)), (3, .int x3), (4, .int x4), (5, .int v9)]) rfl ?_
        exact Kc C4 x4 v9 (sm_inj h).symm
      · have h := if_t c8 h
        refine wg_iload X 3 dX8_fittingKinds_43 rfl ?_
        refine wg_iconst (v := 1) X dX8_fittingKinds_45 (by decide) ?_
        refine wg_iload X 4 dX8_fittingKinds_46 rfl ?_
        refine wg_ishl X dX8_fittingKinds_48 ?_
        refine wg_ior X dX8_fittingKinds_49 ?_
        obtain ⟨v11, e12, h⟩ := lt_some h
        refine wg_istore (lv' := [(4, .int v11), (0, .ref (ad 0)), (1, .ref (ad p1)), (3, .int x3), (5, .int x5)]) X dX8_fittingKinds_50 e12 (by decide) rfl ?_
        obtain ⟨v13, e14, h⟩ := lt_some h
        refine wg_iinc (lv' := [(5, .int v13), (4, .int v11), (0, .ref (ad 0)), (1, .ref (ad p1)), (3, .int x3)]) X 4 dX8_fittingKinds_52 rfl e14 (by decide) rfl ?_
        refine wg_goto X 14 dX8_fittingKinds_55 (by decide) ?_
        refine wg_pick [2, 3, 4, 1, 0] (lv' := [(0, .ref (ad 0)), (1, .ref (ad p1)), (3, .int x3), (4, .int v11), (5, .int v13)]) rfl ?_
        exact Kc C4 v11 v13 (sm_inj h).symm
set_option maxHeartbeats 4000000 in
set_option maxRecDepth 100000 in
theorem c_X8_fittingKinds (l : Launch) (E : wg_Ev) (ad : Nat → Nat) (S : wg_Sh) (hS : wg_SC S) (N : Nat) (C : wg_C) (M : wg_M) (p1 : Nat) (p2 : Nat) (p3 : Int32) (hp1 : wg_Sht S p1) (hp2 : wg_id S p2 1) {r0 : Int32} {D0 : wg_C} (h : f_X8_fittingKinds N C p1 p2 p3 = some (r0, D0)) : wg_Ci l yX8_fittingKinds cX8_fittingKinds 6 (some .int) 4 90 E ad S C M [.ref (ad 0), .ref (ad p1), .ref (ad p2), .int p3] r0 D0 M := by
  refine wg_start (own := RX8) (by decide +kernel) rfl (Nat.le_of_ble_eq_true rfl) ?_
  intro p e s m below meth c X hr hnm
  refine wg_lv (lv' := [(0, .ref (ad 0)), (1, .ref (ad p1)), (2, .ref (ad p2)), (3, .int p3)]) rfl ?_
  unfold f_X8_fittingKinds at h
  refine wg_iconst (v := 0) X dX8_fittingKinds_0 (by decide) ?_
  refine wg_istore (lv' := [(4, .int (0 : Int32)), (0, .ref (ad 0)), (1, .ref (ad p1)), (2, .ref (ad p2)), (3, .int p3)]) X dX8_fittingKinds_1 rfl (by decide) rfl ?_
  refine wg_aload_n X 1 dX8_fittingKinds_3 rfl rfl ?_
  refine wg_getR (b := 40) X cl8 (SCi hS 0 8 rfl) 8 (by decide) dX8_fittingKinds_4 k_480 rfl (SCr hS 0 8 40 rfl) ?_
  refine wg_aload_n X 3 dX8_fittingKinds_7 rfl rfl ?_
  obtain ⟨C2, h1, h⟩ := bd_some h
  refine wg_callVv (As := [.ref (ad p2)]) (rest := []) X (c_X1_become l E ad S hS C M 40 p2 (SCi hS 40 1 rfl) hp2 h1) T_yX1_become k_733 cl1 (SCi hS 40 1 rfl) dX8_fittingKinds_8 rfl rfl (Nat.le_of_ble_eq_true rfl) ⟨Nat.le_of_ble_eq_true rfl, Nat.le_of_ble_eq_true rfl⟩ ⟨Nat.zero_le _, Nat.zero_le _⟩ ?_
  refine wg_iconst (v := 0) X dX8_fittingKinds_11 (by decide) ?_
  refine wg_istore (lv' := [(5, .int (0 : Int32)), (4, .int (0 : Int32)), (0, .ref (ad 0)), (1, .ref (ad p1)), (2, .ref (ad p2)), (3, .int p3)]) X dX8_fittingKinds_12 rfl (by decide) rfl ?_
  obtain ⟨o18, h19, h⟩ := bd3_o h
  refine wg_pick [2, 3, 5, 1, 0] (lv' := [(0, .ref (ad 0)), (1, .ref (ad p1)), (3, .int p3), (4, .int (0 : Int32)), (5, .int (0 : Int32))]) rfl ?_
  refine L_X8_fittingKinds_l14 X hr hS r0 D0 M N p1 hp1 p2 hp2  p3  N C2 (0 : Int32) (0 : Int32) o18 h19 (fun C15 v16 v17 e21 => ?_)
  · subst o18
    replace h := bd3_in h
    refine wg_iload X 3 dX8_fittingKinds_58 rfl ?_
    exact wg_iret X ⟨(Prod.mk.inj (sm_inj h)).1, (Prod.mk.inj (sm_inj h)).2, rfl⟩ hr dX8_fittingKinds_60
-- WindowsGive.fittingShifts(LWindowsGive$Sheet;LWindowsGive$Pane;I)I (('c', 0), 'SH', 'P', 'i')
def f_X8_fittingShifts_l14 (N : Nat) (p1 : Nat) (p2 : Nat)  (x3 : Int32) (C : wg_C) (x4 : Int32) (x5 : Int32) : Option ((wg_C × Int32 × Int32) ⊕ (wg_C × Int32 × Int32)) :=
  if (18 : Int32) < x5 then (
    some (.inr (C, x4, x5)))
  else (
    lt_ (wg_up C 40 3 (x5 - (9 : Int32))) fun C4 =>
    bd (f_X8_firstOther N C4 p1 40 x3) fun r7 =>
    if r7 = (-1 : Int32) then (
      lt_ (x4 ||| ((1 : Int32) <<< (x5 &&& 31))) fun v11 =>
      lt_ (x5 + (1 : Int32)) fun v13 =>
      some (.inl (C4, v11, v13)))
    else (
      lt_ (x5 + (1 : Int32)) fun v9 =>
      some (.inl (C4, x4, v9))))
def f_X8_fittingShifts (N : Nat) (C : wg_C) (p1 : Nat) (p2 : Nat) (p3 : Int32) : Option (Int32 × wg_C) :=
  bd (f_X1_become C 40 p2) fun C2 =>
  bd3 (lp (fun o => f_X8_fittingShifts_l14 N p1 p2  p3 o.1 o.2.1 o.2.2) N (C2, (0 : Int32), (0 : Int32))) fun C15 v16 v17 =>
  some (v16, C15)
abbrev G_X8_fittingShifts (p : Program) (l : Launch) (e : Env) (s : State) (m : MethodId) (args : Array Value) (below : List Frame) (meth : Method) (c : Code) (E : wg_Ev) (ad : Nat → Nat) (S : wg_Sh) (r0 : Int32) (C0 : wg_C) (M0 : wg_M) (pc : Nat) (C : wg_C) (M : wg_M) (lv : List (Nat × Value)) (st : List Value) : Prop := wg_G p l e (wg_Rm 4 90) s m args below meth c (MQ below (wg_Qi E ad S r0 C0 M0) args s 0 0 (wg_A E)) 6 E ad S 0 0 pc C M lv st
set_option maxHeartbeats 4000000 in
set_option maxRecDepth 100000 in
theorem L_X8_fittingShifts_l14 {p : Program} {l : Launch} {e : Env} {s : State} {m : MethodId} {args : Array Value} {below : List Frame} {meth : Method} {c : Code} {E : wg_Ev} {ad : Nat → Nat} {S : wg_Sh} (X : wg_X p s m args meth c cX8_fittingShifts 6 RX8 E) (hr : meth.sig.returnType = (some .int)) (hS : wg_SC S) (r0 : Int32) (D0 : wg_C) (M : wg_M) (N : Nat) (p1 : Nat) (hp1 : wg_Sht S p1) (p2 : Nat) (hp2 : wg_id S p2 1)  (x3 : Int32)  : ∀ (n : Nat) (C : wg_C) (x4 : Int32) (x5 : Int32) (o : (wg_C × Int32 × Int32)), lp (fun o => f_X8_fittingShifts_l14 N p1 p2  x3 o.1 o.2.1 o.2.2) n (C, x4, x5) = some o → (∀ (Dy : wg_C) (y4 : Int32) (y5 : Int32), o = (Dy, y4, y5) → G_X8_fittingShifts p l e s m args below meth c E ad S r0 D0 M 62 Dy M [(0, .ref (ad 0)), (1, .ref (ad p1)), (3, .int x3), (4, .int y4), (5, .int y5)] []) → G_X8_fittingShifts p l e s m args below meth c E ad S r0 D0 M 14 C M [(0, .ref (ad 0)), (1, .ref (ad p1)), (3, .int x3), (4, .int x4), (5, .int x5)] [] := by
  intro n
  induction n with
  | zero => exact fun _ _ _ o h => (lp_zero h).elim
  | succ n ih =>
    intro C x4 x5 o h K
    obtain ⟨o1, hb, h2⟩ := lp_some h
    replace hb : f_X8_fittingShifts_l14 N p1 p2  x3 C x4 x5 = some o1 := hb
    clear h
    have Kc : ∀ (Dy : wg_C) (y4 : Int32) (y5 : Int32), o1 = Sum.inl (Dy, y4, y5) → G_X8_fittingShifts p l e s m args below meth c E ad S r0 D0 M 14 Dy M [(0, .ref (ad 0)), (1, .ref (ad p1)), (3, .int x3), (4, .int y4), (5, .int y5)] [] := fun Dy y4 y5 e1 => by
      subst e1
      exact ih Dy y4 y5 o h2 K
    have Ke : ∀ (Dy : wg_C) (y4 : Int32) (y5 : Int32), o1 = Sum.inr ((Dy, y4, y5)) → G_X8_fittingShifts p l e s m args below meth c E ad S r0 D0 M 62 Dy M [(0, .ref (ad 0)), (1, .ref (ad p1)), (3, .int x3), (4, .int y4), (5, .int y5)] [] := fun Dy y4 y5 e1 => by
      subst e1
      exact K Dy y4 y5 (sm_inj (α := (wg_C × Int32 × Int32)) h2).symm
    clear ih K h2
    unfold f_X8_fittingShifts_l14 at hb
    have h := hb
    clear hb
    refine wg_iload X 4 dX8_fittingShifts_14 rfl ?_
    refine wg_bipush (v := 18) X dX8_fittingShifts_16 (by decide) ?_
    refine wg_icmp_gt X 62 dX8_fittingShifts_18 (by decide) (fun c3 => ?_) (fun c3 => ?_)
    · have h := if_t c3 h
      exact Ke C x4 x5 (sm_inj h).symm
    · have h := if_f c3 h
      refine wg_aload_n X 0 dX8_fittingShifts_21 rfl rfl ?_
      refine wg_getR (b := 40) X cl8 (SCi hS 0 8 rfl) 8 (by decide) dX8_fittingShifts_22 k_480 rfl (SCr hS 0 8 40 rfl) ?_
      refine wg_iload X 4 dX8_fittingShifts_25 rfl ?_
      refine wg_bipush (v := 9) X dX8_fittingShifts_27 (by decide) ?_
      refine wg_isub X dX8_fittingShifts_29 ?_
      obtain ⟨C4, e5, h⟩ := lt_some h
      refine wg_putCe X cl1 (SCi hS 40 1 rfl) 3 (by decide) dX8_fittingShifts_30 k_119 rfl rfl rfl rfl e5 ?_
      refine wg_aload_n X 0 dX8_fittingShifts_33 rfl rfl ?_
      refine wg_aload_n X 1 dX8_fittingShifts_34 rfl rfl ?_
      refine wg_aload_n X 0 dX8_fittingShifts_35 rfl rfl ?_
      refine wg_getR (b := 40) X cl8 (SCi hS 0 8 rfl) 8 (by decide) dX8_fittingShifts_36 k_480 rfl (SCr hS 0 8 40 rfl) ?_
      refine wg_iload_n X 2 dX8_fittingShifts_39 rfl rfl ?_
      obtain ⟨r7, h6, h⟩ := bd_some h
      refine wg_callVi (As := [.ref (ad p1), .ref (ad 40), .int x3]) (rest := []) X (c_X8_firstOther l E ad S hS N C4 M p1 40 x3 hp1 (SCi hS 40 1 rfl) h6) T_yX8_firstOther k_718 cl8 (SCi hS 0 8 rfl) dX8_fittingShifts_40 rfl rfl (Nat.le_of_ble_eq_true rfl) ⟨Nat.le_of_ble_eq_true rfl, Nat.le_of_ble_eq_true rfl⟩ ⟨Nat.zero_le _, Nat.zero_le _⟩ ?_
      refine wg_iconst (v := -1) X dX8_fittingShifts_43 (by decide) ?_
      refine wg_icmp_ne X 56 dX8_fittingShifts_44 (by decide) (fun c8 => ?_) (fun c8 => ?_)
      · have h := if_f c8 h
        obtain ⟨v9, e10, h⟩ := lt_some h
        refine wg_iinc (lv' := [(5, .int v9), (0, .ref (ad 0)), (1, .ref (ad p1)), (3, .int x3), (4, .int x4)]) X 4 dX8_fittingShifts_56 rfl e10 (by decide) rfl ?_
        refine wg_goto X 14 dX8_fittingShifts_59 (by decide) ?_
        refine wg_pick [1, 2, 3, 4, 0] (lv' := [(0, .ref (ad 0)), (1, .ref (ad p1)), (3, .int x3), (4, .int x4), (5, .int v9)]) rfl ?_
        exact Kc C4 x4 v9 (sm_inj h).symm
      · have h := if_t c8 h
        refine wg_iload X 3 dX8_fittingShifts_47 rfl ?_
        refine wg_iconst (v := 1) X dX8_fittingShifts_49 (by decide) ?_
        refine wg_iload X 4 dX8_fittingShifts_50 rfl ?_
        refine wg_ishl X dX8_fittingShifts_52 ?_
        refine wg_ior X dX8_fittingShifts_53 ?_
        obtain ⟨v11, e12, h⟩ := lt_some h
        refine wg_istore (lv' := [(4, .int v11), (0, .ref (ad 0)), (1, .ref (ad p1)), (3, .int x3), (5, .int x5)]) X dX8_fittingShifts_54 e12 (by decide) rfl ?_
        obtain ⟨v13, e14, h⟩ := lt_some h
        refine wg_iinc (lv' := [(5, .int v13), (4, .int v11), (0, .ref (ad 0)), (1, .ref (ad p1)), (3, .int x3)]) X 4 dX8_fittingShifts_56 rfl e14 (by decide) rfl ?_
        refine wg_goto X 14 dX8_fittingShifts_59 (by decide) ?_
        refine wg_pick [2, 3, 4, 1, 0] (lv' := [(0, .ref (ad 0)), (1, .ref (ad p1)), (3, .int x3), (4, .int v11), (5, .int v13)]) rfl ?_
        exact Kc C4 v11 v13 (sm_inj h).symm
set_option maxHeartbeats 4000000 in
set_option maxRecDepth 100000 in
theorem c_X8_fittingShifts (l : Launch) (E : wg_Ev) (ad : Nat → Nat) (S : wg_Sh) (hS : wg_SC S) (N : Nat) (C : wg_C) (M : wg_M) (p1 : Nat) (p2 : Nat) (p3 : Int32) (hp1 : wg_Sht S p1) (hp2 : wg_id S p2 1) {r0 : Int32} {D0 : wg_C} (h : f_X8_fittingShifts N C p1 p2 p3 = some (r0, D0)) : wg_Ci l yX8_fittingShifts cX8_fittingShifts 6 (some .int) 4 90 E ad S C M [.ref (ad 0), .ref (ad p1), .ref (ad p2), .int p3] r0 D0 M := by
  refine wg_start (own := RX8) (by decide +kernel) rfl (Nat.le_of_ble_eq_true rfl) ?_
  intro p e s m below meth c X hr hnm
  refine wg_lv (lv' := [(0, .ref (ad 0)), (1, .ref (ad p1)), (2, .ref (ad p2)), (3, .int p3)]) rfl ?_
  unfold f_X8_fittingShifts at h
  refine wg_iconst (v := 0) X dX8_fittingShifts_0 (by decide) ?_
  refine wg_istore (lv' := [(4, .int (0 : Int32)), (0, .ref (ad 0)), (1, .ref (ad p1)), (2, .ref (ad p2)), (3, .int p3)]) X dX8_fittingShifts_1 rfl (by decide) rfl ?_
  refine wg_aload_n X 1 dX8_fittingShifts_3 rfl rfl ?_
  refine wg_getR (b := 40) X cl8 (SCi hS 0 8 rfl) 8 (by decide) dX8_fittingShifts_4 k_480 rfl (SCr hS 0 8 40 rfl) ?_
  refine wg_aload_n X 3 dX8_fittingShifts_7 rfl rfl ?_
  obtain ⟨C2, h1, h⟩ := bd_some h
  refine wg_callVv (As := [.ref (ad p2)]) (rest := []) X (c_X1_become l E ad S hS C M 40 p2 (SCi hS 40 1 rfl) hp2 h1) T_yX1_become k_733 cl1 (SCi hS 40 1 rfl) dX8_fittingShifts_8 rfl rfl (Nat.le_of_ble_eq_true rfl) ⟨Nat.le_of_ble_eq_true rfl, Nat.le_of_ble_eq_true rfl⟩ ⟨Nat.zero_le _, Nat.zero_le _⟩ ?_
  refine wg_iconst (v := 0) X dX8_fittingShifts_11 (by decide) ?_
  refine wg_istore (lv' := [(5, .int (0 : Int32)), (4, .int (0 : Int32)), (0, .ref (ad 0)), (1, .ref (ad p1)), (2, .ref (ad p2)), (3, .int p3)]) X dX8_fittingShifts_12 rfl (by decide) rfl ?_
  obtain ⟨o18, h19, h⟩ := bd3_o h
  refine wg_pick [2, 3, 5, 1, 0] (lv' := [(0, .ref (ad 0)), (1, .ref (ad p1)), (3, .int p3), (4, .int (0 : Int32)), (5, .int (0 : Int32))]) rfl ?_
  refine L_X8_fittingShifts_l14 X hr hS r0 D0 M N p1 hp1 p2 hp2  p3  N C2 (0 : Int32) (0 : Int32) o18 h19 (fun C15 v16 v17 e21 => ?_)
  · subst o18
    replace h := bd3_in h
    refine wg_iload X 3 dX8_fittingShifts_62 rfl ?_
    exact wg_iret X ⟨(Prod.mk.inj (sm_inj h)).1, (Prod.mk.inj (sm_inj h)).2, rfl⟩ hr dX8_fittingShifts_64
-- WindowsGive.seen(IIII)I (('c', 0), 'i', 'i', 'i', 'i')
def f_X8_seen (N : Nat) (C : wg_C) (p1 : Int32) (p2 : Int32) (p3 : Int32) (p4 : Int32) : Option (Int32 × wg_C) :=
  bd (f_X8_refusalOfLook C p1 p2 p3 p4 (2 : Int32)) fun r2 =>
  if r2 = 0 then (
    ck (inb p1 4) <|
    ck (inb p2 8) <|
    if p4 = 0 then (
      bd (f_X8_firstOther N C (44 + 2 * p1.toNatClampNeg) (4 + p2.toNatClampNeg) p3) fun r15 =>
      some (r15, C))
    else (
      if p4 = (1 : Int32) then (
        bd2 (f_X8_fittingShifts N C (44 + 2 * p1.toNatClampNeg) (4 + p2.toNatClampNeg) p3) fun r12 C13 =>
        some (r12, C13))
      else (
        bd2 (f_X8_fittingKinds N C (44 + 2 * p1.toNatClampNeg) (4 + p2.toNatClampNeg) p3) fun r9 C10 =>
        some (r9, C10))))
  else (
    some (r2, C))
set_option maxHeartbeats 4000000 in
set_option maxRecDepth 100000 in
theorem c_X8_seen (l : Launch) (E : wg_Ev) (ad : Nat → Nat) (S : wg_Sh) (hS : wg_SC S) (N : Nat) (C : wg_C) (M : wg_M) (p1 : Int32) (p2 : Int32) (p3 : Int32) (p4 : Int32)  {r0 : Int32} {D0 : wg_C} (h : f_X8_seen N C p1 p2 p3 p4 = some (r0, D0)) : wg_Ci l yX8_seen cX8_seen 8 (some .int) 5 115 E ad S C M [.ref (ad 0), .int p1, .int p2, .int p3, .int p4] r0 D0 M := by
  refine wg_start (own := RX8) (by decide +kernel) rfl (Nat.le_of_ble_eq_true rfl) ?_
  intro p e s m below meth c X hr hnm
  refine wg_lv (lv' := [(0, .ref (ad 0)), (1, .int p1), (2, .int p2), (3, .int p3), (4, .int p4)]) rfl ?_
  unfold f_X8_seen at h
  refine wg_aload_n X 0 dX8_seen_0 rfl rfl ?_
  refine wg_iload_n X 1 dX8_seen_1 rfl rfl ?_
  refine wg_iload_n X 2 dX8_seen_2 rfl rfl ?_
  refine wg_iload_n X 3 dX8_seen_3 rfl rfl ?_
  refine wg_iload X 4 dX8_seen_4 rfl ?_
  refine wg_iconst (v := 2) X dX8_seen_6 (by decide) ?_
  obtain ⟨r2, h1, h⟩ := bd_some h
  refine wg_callVi (As := [.int p1, .int p2, .int p3, .int p4, .int (2 : Int32)]) (rest := []) X (c_X8_refusalOfLook l E ad S hS C M p1 p2 p3 p4 (2 : Int32)  h1) T_yX8_refusalOfLook k_707 cl8 (SCi hS 0 8 rfl) dX8_seen_7 rfl rfl (Nat.le_of_ble_eq_true rfl) ⟨Nat.le_of_ble_eq_true rfl, Nat.le_of_ble_eq_true rfl⟩ ⟨Nat.zero_le _, Nat.zero_le _⟩ ?_
  refine wg_istore (lv' := [(5, .int r2), (0, .ref (ad 0)), (1, .int p1), (2, .int p2), (3, .int p3), (4, .int p4)]) X dX8_seen_10 rfl (by decide) rfl ?_
  refine wg_iload X 0 dX8_seen_12 rfl ?_
  refine wg_if_eq X 20 dX8_seen_14 (by decide) (fun c3 => ?_) (fun c3 => ?_)
  · have h := if_t c3 h
    refine wg_aload_n X 1 dX8_seen_20 rfl rfl ?_
    refine wg_getR (b := 39) X cl8 (SCi hS 0 8 rfl) 7 (by decide) dX8_seen_21 k_479 rfl (SCr hS 0 7 39 rfl) ?_
    refine wg_iload_n X 2 dX8_seen_24 rfl rfl ?_
    obtain ⟨z4, h⟩ := ck_some h
    refine wg_aalS14 (b := 44 + 2 * p1.toNatClampNeg) X (SCi hS 39 14 rfl) (SCl hS 39 4 rfl) z4 (SCs hS (inb_lt z4)).1 dX8_seen_25 ?_
    refine wg_astore (lv' := [(6, .ref (ad (44 + 2 * p1.toNatClampNeg))), (5, .int r2), (0, .ref (ad 0)), (1, .int p1), (2, .int p2), (3, .int p3), (4, .int p4)]) X dX8_seen_26 rfl (by decide) rfl ?_
    refine wg_aload_n X 2 dX8_seen_28 rfl rfl ?_
    refine wg_getR (b := 1) X cl8 (SCi hS 0 8 rfl) 0 (by decide) dX8_seen_29 k_472 rfl (SCr hS 0 0 1 rfl) ?_
    refine wg_getR (b := 3) X cl0 (SCi hS 1 0 rfl) 1 (by decide) dX8_seen_32 k_144 rfl (SCr hS 1 1 3 rfl) ?_
    refine wg_iload_n X 4 dX8_seen_35 rfl rfl ?_
    obtain ⟨z5, h⟩ := ck_some h
    refine wg_aalS13 (b := 4 + p2.toNatClampNeg) X (SCi hS 3 13 rfl) (SCl hS 3 8 rfl) z5 (SCp hS (inb_lt z5)).1 dX8_seen_36 ?_
    refine wg_astore (lv' := [(7, .ref (ad (4 + p2.toNatClampNeg))), (6, .ref (ad (44 + 2 * p1.toNatClampNeg))), (5, .int r2), (0, .ref (ad 0)), (1, .int p1), (2, .int p2), (3, .int p3), (4, .int p4)]) X dX8_seen_37 rfl (by decide) rfl ?_
    refine wg_iload X 7 dX8_seen_39 rfl ?_
    refine wg_if_ne X 54 dX8_seen_41 (by decide) (fun c6 => ?_) (fun c6 => ?_)
    · have h := if_f c6 h
      refine wg_iload X 7 dX8_seen_54 rfl ?_
      refine wg_iconst (v := 1) X dX8_seen_56 (by decide) ?_
      refine wg_icmp_ne X 72 dX8_seen_57 (by decide) (fun c7 => ?_) (fun c7 => ?_)
      · have h := if_f c7 h
        refine wg_aload_n X 3 dX8_seen_72 rfl rfl ?_
        refine wg_aload X 1 dX8_seen_73 rfl ?_
        refine wg_aload X 0 dX8_seen_75 rfl ?_
        refine wg_iload_n X 6 dX8_seen_77 rfl rfl ?_
        obtain ⟨r9, C10, h8, h⟩ := bd2_some h
        refine wg_callVi (As := [.ref (ad (44 + 2 * p1.toNatClampNeg)), .ref (ad (4 + p2.toNatClampNeg)), .int p3]) (rest := []) X (c_X8_fittingKinds l E ad S hS N C M (44 + 2 * p1.toNatClampNeg) (4 + p2.toNatClampNeg) p3 ((SCs hS (inb_lt z4)).2) ((SCp hS (inb_lt z5)).2.1) h8) T_yX8_fittingKinds k_737 cl8 (SCi hS 0 8 rfl) dX8_seen_78 rfl rfl (Nat.le_of_ble_eq_true rfl) ⟨Nat.le_of_ble_eq_true rfl, Nat.le_of_ble_eq_true rfl⟩ ⟨Nat.zero_le _, Nat.zero_le _⟩ ?_
        exact wg_iret X ⟨(Prod.mk.inj (sm_inj h)).1, (Prod.mk.inj (sm_inj h)).2, rfl⟩ hr dX8_seen_81
      · have h := if_t c7 h
        refine wg_aload_n X 3 dX8_seen_60 rfl rfl ?_
        refine wg_aload X 1 dX8_seen_61 rfl ?_
        refine wg_aload X 0 dX8_seen_63 rfl ?_
        refine wg_iload_n X 6 dX8_seen_65 rfl rfl ?_
        obtain ⟨r12, C13, h11, h⟩ := bd2_some h
        refine wg_callVi (As := [.ref (ad (44 + 2 * p1.toNatClampNeg)), .ref (ad (4 + p2.toNatClampNeg)), .int p3]) (rest := []) X (c_X8_fittingShifts l E ad S hS N C M (44 + 2 * p1.toNatClampNeg) (4 + p2.toNatClampNeg) p3 ((SCs hS (inb_lt z4)).2) ((SCp hS (inb_lt z5)).2.1) h11) T_yX8_fittingShifts k_729 cl8 (SCi hS 0 8 rfl) dX8_seen_66 rfl rfl (Nat.le_of_ble_eq_true rfl) ⟨Nat.le_of_ble_eq_true rfl, Nat.le_of_ble_eq_true rfl⟩ ⟨Nat.zero_le _, Nat.zero_le _⟩ ?_
        refine wg_goto X 81 dX8_seen_69 (by decide) ?_
        exact wg_iret X ⟨(Prod.mk.inj (sm_inj h)).1, (Prod.mk.inj (sm_inj h)).2, rfl⟩ hr dX8_seen_81
    · have h := if_t c6 h
      refine wg_aload_n X 3 dX8_seen_44 rfl rfl ?_
      refine wg_aload X 1 dX8_seen_45 rfl ?_
      refine wg_aload X 0 dX8_seen_47 rfl ?_
      refine wg_iload_n X 6 dX8_seen_49 rfl rfl ?_
      obtain ⟨r15, h14, h⟩ := bd_some h
      refine wg_callVi (As := [.ref (ad (44 + 2 * p1.toNatClampNeg)), .ref (ad (4 + p2.toNatClampNeg)), .int p3]) (rest := []) X (c_X8_firstOther l E ad S hS N C M (44 + 2 * p1.toNatClampNeg) (4 + p2.toNatClampNeg) p3 ((SCs hS (inb_lt z4)).2) ((SCp hS (inb_lt z5)).2.1) h14) T_yX8_firstOther k_718 cl8 (SCi hS 0 8 rfl) dX8_seen_50 rfl rfl (Nat.le_of_ble_eq_true rfl) ⟨Nat.le_of_ble_eq_true rfl, Nat.le_of_ble_eq_true rfl⟩ ⟨Nat.zero_le _, Nat.zero_le _⟩ ?_
      exact wg_iret X ⟨(Prod.mk.inj (sm_inj h)).1, (Prod.mk.inj (sm_inj h)).2, rfl⟩ hr dX8_seen_53
  · have h := if_f c3 h
    refine wg_iload X 0 dX8_seen_17 rfl ?_
    exact wg_iret X ⟨(Prod.mk.inj (sm_inj h)).1, (Prod.mk.inj (sm_inj h)).2, rfl⟩ hr dX8_seen_19
-- WindowsGive.unlikeShown(LWindowsGive$Pane;II)I (('c', 0), 'P', 'i', 'i')
def f_X8_unlikeShown_l14 (N : Nat) (p1 : Nat)  (x2 : Int32) (x3 : Int32) (C : wg_C) (x4 : Int32) (x5 : Int32) : Option ((wg_C × Int32 × Int32) ⊕ (wg_C × Int32 × Int32)) :=
  if (18 : Int32) < x5 then (
    some (.inr (C, x4, x5)))
  else (
    if ((x2 >>> (x5 &&& 31)) &&& (1 : Int32)) = (1 : Int32) then (
      lt_ (wg_up C 40 3 (x5 - (9 : Int32))) fun C7 =>
      bd (f_X0_shows C7 40 x3) fun r10 =>
      lt_ (x4 ||| ((1 : Int32) <<< ((r10 + (1 : Int32)) &&& 31))) fun v11 =>
      lt_ (x5 + (1 : Int32)) fun v13 =>
      some (.inl (C7, v11, v13)))
    else (
      lt_ (x5 + (1 : Int32)) fun v5 =>
      some (.inl (C, x4, v5))))
def f_X8_unlikeShown (N : Nat) (C : wg_C) (p1 : Nat) (p2 : Int32) (p3 : Int32) : Option (Int32 × wg_C) :=
  bd (f_X1_become C 40 p1) fun C2 =>
  bd3 (lp (fun o => f_X8_unlikeShown_l14 N p1  p2 p3 o.1 o.2.1 o.2.2) N (C2, (0 : Int32), (0 : Int32))) fun C15 v16 v17 =>
  bd (f_J6_bitCount_0f7a4 v16) fun r23 =>
  some (r23, C15)
abbrev G_X8_unlikeShown (p : Program) (l : Launch) (e : Env) (s : State) (m : MethodId) (args : Array Value) (below : List Frame) (meth : Method) (c : Code) (E : wg_Ev) (ad : Nat → Nat) (S : wg_Sh) (r0 : Int32) (C0 : wg_C) (M0 : wg_M) (pc : Nat) (C : wg_C) (M : wg_M) (lv : List (Nat × Value)) (st : List Value) : Prop := wg_G p l e (wg_Rm 3 66) s m args below meth c (MQ below (wg_Qi E ad S r0 C0 M0) args s 0 0 (wg_A E)) 6 E ad S 0 0 pc C M lv st
set_option maxHeartbeats 4000000 in
set_option maxRecDepth 100000 in
theorem L_X8_unlikeShown_l14 {p : Program} {l : Launch} {e : Env} {s : State} {m : MethodId} {args : Array Value} {below : List Frame} {meth : Method} {c : Code} {E : wg_Ev} {ad : Nat → Nat} {S : wg_Sh} (X : wg_X p s m args meth c cX8_unlikeShown 6 RX8 E) (hr : meth.sig.returnType = (some .int)) (hS : wg_SC S) (r0 : Int32) (D0 : wg_C) (M : wg_M) (N : Nat) (p1 : Nat) (hp1 : wg_id S p1 1)  (x2 : Int32) (x3 : Int32)  : ∀ (n : Nat) (C : wg_C) (x4 : Int32) (x5 : Int32) (o : (wg_C × Int32 × Int32)), lp (fun o => f_X8_unlikeShown_l14 N p1  x2 x3 o.1 o.2.1 o.2.2) n (C, x4, x5) = some o → (∀ (Dy : wg_C) (y4 : Int32) (y5 : Int32), o = (Dy, y4, y5) → G_X8_unlikeShown p l e s m args below meth c E ad S r0 D0 M 70 Dy M [(0, .ref (ad 0)), (2, .int x2), (3, .int x3), (4, .int y4), (5, .int y5)] []) → G_X8_unlikeShown p l e s m args below meth c E ad S r0 D0 M 14 C M [(0, .ref (ad 0)), (2, .int x2), (3, .int x3), (4, .int x4), (5, .int x5)] [] := by
  intro n
  induction n with
  | zero => exact fun _ _ _ o h => (lp_zero h).elim
  | succ n ih =>
    intro C x4 x5 o h K
    obtain ⟨o1, hb, h2⟩ := lp_some h
    replace hb : f_X8_unlikeShown_l14 N p1  x2 x3 C x4 x5 = some o1 := hb
    clear h
    have Kc : ∀ (Dy : wg_C) (y4 : Int32) (y5 : Int32), o1 = Sum.inl (Dy, y4, y5) → G_X8_unlikeShown p l e s m args below meth c E ad S r0 D0 M 14 Dy M [(0, .ref (ad 0)), (2, .int x2), (3, .int x3), (4, .int y4), (5, .int y5)] [] := fun Dy y4 y5 e1 => by
      subst e1
      exact ih Dy y4 y5 o h2 K
    have Ke : ∀ (Dy : wg_C) (y4 : Int32) (y5 : Int32), o1 = Sum.inr ((Dy, y4, y5)) → G_X8_unlikeShown p l e s m args below meth c E ad S r0 D0 M 70 Dy M [(0, .ref (ad 0)), (2, .int x2), (3, .int x3), (4, .int y4), (5, .int y5)] [] := fun Dy y4 y5 e1 => by
      subst e1
      exact K Dy y4 y5 (sm_inj (α := (wg_C × Int32 × Int32)) h2).symm
    clear ih K h2
    unfold f_X8_unlikeShown_l14 at hb
    have h := hb
    clear hb
    refine wg_iload X 4 dX8_unlikeShown_14 rfl ?_
    refine wg_bipush (v := 18) X dX8_unlikeShown_16 (by decide) ?_
    refine wg_icmp_gt X 70 dX8_unlikeShown_18 (by decide) (fun c3 => ?_) (fun c3 => ?_)
    · have h := if_t c3 h
      exact Ke C x4 x5 (sm_inj h).symm
    · have h := if_f c3 h
      refine wg_iload_n X 1 dX8_unlikeShown_21 rfl rfl ?_
      refine wg_iload X 4 dX8_unlikeShown_22 rfl ?_
      refine wg_ishr X dX8_unlikeShown_24 ?_
      refine wg_iconst (v := 1) X dX8_unlikeShown_25 (by decide) ?_
      refine wg_iand X dX8_unlikeShown_26 ?_
      refine wg_iconst (v := 1) X dX8_unlikeShown_27 (by decide) ?_
      refine wg_icmp_ne X 64 dX8_unlikeShown_28 (by decide) (fun c4 => ?_) (fun c4 => ?_)
      · have h := if_f c4 h
        obtain ⟨v5, e6, h⟩ := lt_some h
        refine wg_iinc (lv' := [(5, .int v5), (0, .ref (ad 0)), (2, .int x2), (3, .int x3), (4, .int x4)]) X 4 dX8_unlikeShown_64 rfl e6 (by decide) rfl ?_
        refine wg_goto X 14 dX8_unlikeShown_67 (by decide) ?_
        refine wg_pick [1, 2, 3, 4, 0] (lv' := [(0, .ref (ad 0)), (2, .int x2), (3, .int x3), (4, .int x4), (5, .int v5)]) rfl ?_
        exact Kc C x4 v5 (sm_inj h).symm
      · have h := if_t c4 h
        refine wg_aload_n X 0 dX8_unlikeShown_31 rfl rfl ?_
        refine wg_getR (b := 40) X cl8 (SCi hS 0 8 rfl) 8 (by decide) dX8_unlikeShown_32 k_480 rfl (SCr hS 0 8 40 rfl) ?_
        refine wg_iload X 4 dX8_unlikeShown_35 rfl ?_
        refine wg_bipush (v := 9) X dX8_unlikeShown_37 (by decide) ?_
        refine wg_isub X dX8_unlikeShown_39 ?_
        obtain ⟨C7, e8, h⟩ := lt_some h
        refine wg_putCe X cl1 (SCi hS 40 1 rfl) 3 (by decide) dX8_unlikeShown_40 k_119 rfl rfl rfl rfl e8 ?_
        refine wg_iload X 3 dX8_unlikeShown_43 rfl ?_
        refine wg_iconst (v := 1) X dX8_unlikeShown_45 (by decide) ?_
        refine wg_aload_n X 0 dX8_unlikeShown_46 rfl rfl ?_
        refine wg_getR (b := 1) X cl8 (SCi hS 0 8 rfl) 0 (by decide) dX8_unlikeShown_47 k_472 rfl (SCr hS 0 0 1 rfl) ?_
        refine wg_aload_n X 0 dX8_unlikeShown_50 rfl rfl ?_
        refine wg_getR (b := 40) X cl8 (SCi hS 0 8 rfl) 8 (by decide) dX8_unlikeShown_51 k_480 rfl (SCr hS 0 8 40 rfl) ?_
        refine wg_iload_n X 2 dX8_unlikeShown_54 rfl rfl ?_
        obtain ⟨r10, h9, h⟩ := bd_some h
        refine wg_callVi (As := [.ref (ad 40), .int x3]) (rest := [.int (1 : Int32), .int x4]) X (c_X0_shows l E ad S hS C7 M 40 x3 (SCi hS 40 1 rfl) h9) T_yX0_shows k_722 cl0 (SCi hS 1 0 rfl) dX8_unlikeShown_55 rfl rfl (Nat.le_of_ble_eq_true rfl) ⟨Nat.le_of_ble_eq_true rfl, Nat.le_of_ble_eq_true rfl⟩ ⟨Nat.zero_le _, Nat.zero_le _⟩ ?_
        refine wg_iconst (v := 1) X dX8_unlikeShown_58 (by decide) ?_
        refine wg_iadd X dX8_unlikeShown_59 ?_
        refine wg_ishl X dX8_unlikeShown_60 ?_
        refine wg_ior X dX8_unlikeShown_61 ?_
        obtain ⟨v11, e12, h⟩ := lt_some h
        refine wg_istore (lv' := [(4, .int v11), (0, .ref (ad 0)), (2, .int x2), (3, .int x3), (5, .int x5)]) X dX8_unlikeShown_62 e12 (by decide) rfl ?_
        obtain ⟨v13, e14, h⟩ := lt_some h
        refine wg_iinc (lv' := [(5, .int v13), (4, .int v11), (0, .ref (ad 0)), (2, .int x2), (3, .int x3)]) X 4 dX8_unlikeShown_64 rfl e14 (by decide) rfl ?_
        refine wg_goto X 14 dX8_unlikeShown_67 (by decide) ?_
        refine wg_pick [2, 3, 4, 1, 0] (lv' := [(0, .ref (ad 0)), (2, .int x2), (3, .int x3), (4, .int v11), (5, .int v13)]) rfl ?_
        exact Kc C7 v11 v13 (sm_inj h).symm
set_option maxHeartbeats 4000000 in
set_option maxRecDepth 100000 in
theorem c_X8_unlikeShown (l : Launch) (E : wg_Ev) (ad : Nat → Nat) (S : wg_Sh) (hS : wg_SC S) (N : Nat) (C : wg_C) (M : wg_M) (p1 : Nat) (p2 : Int32) (p3 : Int32) (hp1 : wg_id S p1 1) {r0 : Int32} {D0 : wg_C} (h : f_X8_unlikeShown N C p1 p2 p3 = some (r0, D0)) : wg_Ci l yX8_unlikeShown cX8_unlikeShown 6 (some .int) 3 66 E ad S C M [.ref (ad 0), .ref (ad p1), .int p2, .int p3] r0 D0 M := by
  refine wg_start (own := RX8) (by decide +kernel) rfl (Nat.le_of_ble_eq_true rfl) ?_
  intro p e s m below meth c X hr hnm
  refine wg_lv (lv' := [(0, .ref (ad 0)), (1, .ref (ad p1)), (2, .int p2), (3, .int p3)]) rfl ?_
  unfold f_X8_unlikeShown at h
  refine wg_iconst (v := 0) X dX8_unlikeShown_0 (by decide) ?_
  refine wg_istore (lv' := [(4, .int (0 : Int32)), (0, .ref (ad 0)), (1, .ref (ad p1)), (2, .int p2), (3, .int p3)]) X dX8_unlikeShown_1 rfl (by decide) rfl ?_
  refine wg_aload_n X 1 dX8_unlikeShown_3 rfl rfl ?_
  refine wg_getR (b := 40) X cl8 (SCi hS 0 8 rfl) 8 (by decide) dX8_unlikeShown_4 k_480 rfl (SCr hS 0 8 40 rfl) ?_
  refine wg_aload_n X 2 dX8_unlikeShown_7 rfl rfl ?_
  obtain ⟨C2, h1, h⟩ := bd_some h
  refine wg_callVv (As := [.ref (ad p1)]) (rest := []) X (c_X1_become l E ad S hS C M 40 p1 (SCi hS 40 1 rfl) hp1 h1) T_yX1_become k_733 cl1 (SCi hS 40 1 rfl) dX8_unlikeShown_8 rfl rfl (Nat.le_of_ble_eq_true rfl) ⟨Nat.le_of_ble_eq_true rfl, Nat.le_of_ble_eq_true rfl⟩ ⟨Nat.zero_le _, Nat.zero_le _⟩ ?_
  refine wg_iconst (v := 0) X dX8_unlikeShown_11 (by decide) ?_
  refine wg_istore (lv' := [(5, .int (0 : Int32)), (4, .int (0 : Int32)), (0, .ref (ad 0)), (1, .ref (ad p1)), (2, .int p2), (3, .int p3)]) X dX8_unlikeShown_12 rfl (by decide) rfl ?_
  obtain ⟨o18, h19, h⟩ := bd3_o h
  refine wg_pick [2, 4, 5, 1, 0] (lv' := [(0, .ref (ad 0)), (2, .int p2), (3, .int p3), (4, .int (0 : Int32)), (5, .int (0 : Int32))]) rfl ?_
  refine L_X8_unlikeShown_l14 X hr hS r0 D0 M N p1 hp1  p2 p3  N C2 (0 : Int32) (0 : Int32) o18 h19 (fun C15 v16 v17 e21 => ?_)
  · subst o18
    replace h := bd3_in h
    refine wg_iload X 3 dX8_unlikeShown_70 rfl ?_
    obtain ⟨r23, h22, h⟩ := bd_some h
    refine wg_callSi (As := [.int v16]) (rest := []) X (c_J6_bitCount_0f7a4 l E ad S C15 M v16  h22) T_yJ6_bitCount_0f7a4 k_693 dX8_unlikeShown_72 rfl rfl (Nat.le_of_ble_eq_true rfl) ⟨Nat.le_of_ble_eq_true rfl, Nat.le_of_ble_eq_true rfl⟩ ⟨Nat.zero_le _, Nat.zero_le _⟩ ?_
    exact wg_iret X ⟨(Prod.mk.inj (sm_inj h)).1, (Prod.mk.inj (sm_inj h)).2, rfl⟩ hr dX8_unlikeShown_75
-- WindowsGive.lookNext(IIII)I (('c', 0), 'i', 'i', 'i', 'i')
def f_X8_lookNext_l55 (N : Nat)  (x4 : Int32) (x6 : Nat) (x7 : Int32) (C : wg_C) (x8 : Int32) (x9 : Int32) (x10 : Int32) : Option ((wg_C × Int32 × Int32 × Int32) ⊕ (wg_C × Int32 × Int32 × Int32)) :=
  if (32 : Int32) ≤ x10 then (
    some (.inr (C, x8, x9, x10)))
  else (
    bd2 (f_X8_unlikeShown N C x6 x7 x10) fun r11 C12 =>
    if r11 ≤ x9 then (
      lt_ (x10 + (1 : Int32)) fun v14 =>
      some (.inl (C12, x8, x9, v14)))
    else (
      lt_ (x10 + (1 : Int32)) fun v16 =>
      some (.inl (C12, x10, r11, v16))))
def f_X8_lookNext (N : Nat) (C : wg_C) (p1 : Int32) (p2 : Int32) (p3 : Int32) (p4 : Int32) : Option (Int32 × wg_C) :=
  bd (f_X8_refusalOfLook C p1 p2 p3 p4 (1 : Int32)) fun r2 =>
  if r2 = 0 then (
    ck (inb p2 8) <|
    ck (inb p1 4) <|
    bd2 (f_X8_fittingShifts N C (44 + 2 * p1.toNatClampNeg) (4 + p2.toNatClampNeg) p3) fun r7 C8 =>
    bd4 (lp (fun o => f_X8_lookNext_l55 N  p4 (4 + p2.toNatClampNeg) r7 o.1 o.2.1 o.2.2.1 o.2.2.2) N (C8, (0 : Int32), (0 : Int32), (0 : Int32))) fun C18 v19 v20 v21 =>
    if p4 = 0 then (
      some (v19, C18))
    else (
      some (v20, C18)))
  else (
    some (r2, C))
abbrev G_X8_lookNext (p : Program) (l : Launch) (e : Env) (s : State) (m : MethodId) (args : Array Value) (below : List Frame) (meth : Method) (c : Code) (E : wg_Ev) (ad : Nat → Nat) (S : wg_Sh) (r0 : Int32) (C0 : wg_C) (M0 : wg_M) (pc : Nat) (C : wg_C) (M : wg_M) (lv : List (Nat × Value)) (st : List Value) : Prop := wg_G p l e (wg_Rm 5 115) s m args below meth c (MQ below (wg_Qi E ad S r0 C0 M0) args s 0 0 (wg_A E)) 12 E ad S 0 0 pc C M lv st
set_option maxHeartbeats 4000000 in
set_option maxRecDepth 100000 in
theorem L_X8_lookNext_l55 {p : Program} {l : Launch} {e : Env} {s : State} {m : MethodId} {args : Array Value} {below : List Frame} {meth : Method} {c : Code} {E : wg_Ev} {ad : Nat → Nat} {S : wg_Sh} (X : wg_X p s m args meth c cX8_lookNext 12 RX8 E) (hr : meth.sig.returnType = (some .int)) (hS : wg_SC S) (r0 : Int32) (D0 : wg_C) (M : wg_M) (N : Nat)   (x4 : Int32) (x6 : Nat) (x7 : Int32) (hx6 : wg_id S x6 1) : ∀ (n : Nat) (C : wg_C) (x8 : Int32) (x9 : Int32) (x10 : Int32) (o : (wg_C × Int32 × Int32 × Int32)), lp (fun o => f_X8_lookNext_l55 N  x4 x6 x7 o.1 o.2.1 o.2.2.1 o.2.2.2) n (C, x8, x9, x10) = some o → (∀ (Dy : wg_C) (y8 : Int32) (y9 : Int32) (y10 : Int32), o = (Dy, y8, y9, y10) → G_X8_lookNext p l e s m args below meth c E ad S r0 D0 M 95 Dy M [(0, .ref (ad 0)), (4, .int x4), (6, .ref (ad x6)), (7, .int x7), (8, .int y8), (9, .int y9), (10, .int y10)] []) → G_X8_lookNext p l e s m args below meth c E ad S r0 D0 M 55 C M [(0, .ref (ad 0)), (4, .int x4), (6, .ref (ad x6)), (7, .int x7), (8, .int x8), (9, .int x9), (10, .int x10)] [] := by
  intro n
  induction n with
  | zero => exact fun _ _ _ _ o h => (lp_zero h).elim
  | succ n ih =>
    intro C x8 x9 x10 o h K
    obtain ⟨o1, hb, h2⟩ := lp_some h
    replace hb : f_X8_lookNext_l55 N  x4 x6 x7 C x8 x9 x10 = some o1 := hb
    clear h
    have Kc : ∀ (Dy : wg_C) (y8 : Int32) (y9 : Int32) (y10 : Int32), o1 = Sum.inl (Dy, y8, y9, y10) → G_X8_lookNext p l e s m args below meth c E ad S r0 D0 M 55 Dy M [(0, .ref (ad 0)), (4, .int x4), (6, .ref (ad x6)), (7, .int x7), (8, .int y8), (9, .int y9), (10, .int y10)] [] := fun Dy y8 y9 y10 e1 => by
      subst e1
      exact ih Dy y8 y9 y10 o h2 K
    have Ke : ∀ (Dy : wg_C) (y8 : Int32) (y9 : Int32) (y10 : Int32), o1 = Sum.inr ((Dy, y8, y9, y10)) → G_X8_lookNext p l e s m args below meth c E ad S r0 D0 M 95 Dy M [(0, .ref (ad 0)), (4, .int x4), (6, .ref (ad x6)), (7, .int x7), (8, .int y8), (9, .int y9), (10, .int y10)] [] := fun Dy y8 y9 y10 e1 => by
      subst e1
      exact K Dy y8 y9 y10 (sm_inj (α := (wg_C × Int32 × Int32 × Int32)) h2).symm
    clear ih K h2
    unfold f_X8_lookNext_l55 at hb
    have h := hb
    clear hb
    refine wg_iload X 6 dX8_lookNext_55 rfl ?_
    refine wg_bipush (v := 32) X dX8_lookNext_57 (by decide) ?_
    refine wg_icmp_ge X 95 dX8_lookNext_59 (by decide) (fun c9 => ?_) (fun c9 => ?_)
    · have h := if_t c9 h
      exact Ke C x8 x9 x10 (sm_inj h).symm
    · have h := if_f c9 h
      refine wg_aload_n X 0 dX8_lookNext_62 rfl rfl ?_
      refine wg_aload X 2 dX8_lookNext_63 rfl ?_
      refine wg_iload X 3 dX8_lookNext_65 rfl ?_
      refine wg_iload X 6 dX8_lookNext_67 rfl ?_
      obtain ⟨r11, C12, h10, h⟩ := bd2_some h
      refine wg_callVi (As := [.ref (ad x6), .int x7, .int x10]) (rest := []) X (c_X8_unlikeShown l E ad S hS N C M x6 x7 x10 hx6 h10) T_yX8_unlikeShown k_745 cl8 (SCi hS 0 8 rfl) dX8_lookNext_69 rfl rfl (Nat.le_of_ble_eq_true rfl) ⟨Nat.le_of_ble_eq_true rfl, Nat.le_of_ble_eq_true rfl⟩ ⟨Nat.zero_le _, Nat.zero_le _⟩ ?_
      refine wg_istore (lv' := [(11, .int r11), (0, .ref (ad 0)), (4, .int x4), (6, .ref (ad x6)), (7, .int x7), (8, .int x8), (9, .int x9), (10, .int x10)]) X dX8_lookNext_72 rfl (by decide) rfl ?_
      refine wg_iload X 0 dX8_lookNext_74 rfl ?_
      refine wg_iload X 6 dX8_lookNext_76 rfl ?_
      refine wg_icmp_le X 89 dX8_lookNext_78 (by decide) (fun c13 => ?_) (fun c13 => ?_)
      · have h := if_t c13 h
        obtain ⟨v14, e15, h⟩ := lt_some h
        refine wg_iinc (lv' := [(10, .int v14), (11, .int r11), (0, .ref (ad 0)), (4, .int x4), (6, .ref (ad x6)), (7, .int x7), (8, .int x8), (9, .int x9)]) X 7 dX8_lookNext_89 rfl e15 (by decide) rfl ?_
        refine wg_goto X 55 dX8_lookNext_92 (by decide) ?_
        refine wg_pick [2, 3, 4, 5, 6, 7, 0] (lv' := [(0, .ref (ad 0)), (4, .int x4), (6, .ref (ad x6)), (7, .int x7), (8, .int x8), (9, .int x9), (10, .int v14)]) rfl ?_
        exact Kc C12 x8 x9 v14 (sm_inj h).symm
      · have h := if_f c13 h
        refine wg_iload X 0 dX8_lookNext_81 rfl ?_
        refine wg_istore (lv' := [(9, .int r11), (11, .int r11), (0, .ref (ad 0)), (4, .int x4), (6, .ref (ad x6)), (7, .int x7), (8, .int x8), (10, .int x10)]) X dX8_lookNext_83 rfl (by decide) rfl ?_
        refine wg_iload X 7 dX8_lookNext_85 rfl ?_
        refine wg_istore (lv' := [(8, .int x10), (9, .int r11), (11, .int r11), (0, .ref (ad 0)), (4, .int x4), (6, .ref (ad x6)), (7, .int x7), (10, .int x10)]) X dX8_lookNext_87 rfl (by decide) rfl ?_
        obtain ⟨v16, e17, h⟩ := lt_some h
        refine wg_iinc (lv' := [(10, .int v16), (8, .int x10), (9, .int r11), (11, .int r11), (0, .ref (ad 0)), (4, .int x4), (6, .ref (ad x6)), (7, .int x7)]) X 7 dX8_lookNext_89 rfl e17 (by decide) rfl ?_
        refine wg_goto X 55 dX8_lookNext_92 (by decide) ?_
        refine wg_pick [4, 5, 6, 7, 1, 2, 0] (lv' := [(0, .ref (ad 0)), (4, .int x4), (6, .ref (ad x6)), (7, .int x7), (8, .int x10), (9, .int r11), (10, .int v16)]) rfl ?_
        exact Kc C12 x10 r11 v16 (sm_inj h).symm
set_option maxHeartbeats 4000000 in
set_option maxRecDepth 100000 in
theorem c_X8_lookNext (l : Launch) (E : wg_Ev) (ad : Nat → Nat) (S : wg_Sh) (hS : wg_SC S) (N : Nat) (C : wg_C) (M : wg_M) (p1 : Int32) (p2 : Int32) (p3 : Int32) (p4 : Int32)  {r0 : Int32} {D0 : wg_C} (h : f_X8_lookNext N C p1 p2 p3 p4 = some (r0, D0)) : wg_Ci l yX8_lookNext cX8_lookNext 12 (some .int) 5 115 E ad S C M [.ref (ad 0), .int p1, .int p2, .int p3, .int p4] r0 D0 M := by
  refine wg_start (own := RX8) (by decide +kernel) rfl (Nat.le_of_ble_eq_true rfl) ?_
  intro p e s m below meth c X hr hnm
  refine wg_lv (lv' := [(0, .ref (ad 0)), (1, .int p1), (2, .int p2), (3, .int p3), (4, .int p4)]) rfl ?_
  unfold f_X8_lookNext at h
  refine wg_aload_n X 0 dX8_lookNext_0 rfl rfl ?_
  refine wg_iload_n X 1 dX8_lookNext_1 rfl rfl ?_
  refine wg_iload_n X 2 dX8_lookNext_2 rfl rfl ?_
  refine wg_iload_n X 3 dX8_lookNext_3 rfl rfl ?_
  refine wg_iload X 4 dX8_lookNext_4 rfl ?_
  refine wg_iconst (v := 1) X dX8_lookNext_6 (by decide) ?_
  obtain ⟨r2, h1, h⟩ := bd_some h
  refine wg_callVi (As := [.int p1, .int p2, .int p3, .int p4, .int (1 : Int32)]) (rest := []) X (c_X8_refusalOfLook l E ad S hS C M p1 p2 p3 p4 (1 : Int32)  h1) T_yX8_refusalOfLook k_707 cl8 (SCi hS 0 8 rfl) dX8_lookNext_7 rfl rfl (Nat.le_of_ble_eq_true rfl) ⟨Nat.le_of_ble_eq_true rfl, Nat.le_of_ble_eq_true rfl⟩ ⟨Nat.zero_le _, Nat.zero_le _⟩ ?_
  refine wg_istore (lv' := [(5, .int r2), (0, .ref (ad 0)), (1, .int p1), (2, .int p2), (3, .int p3), (4, .int p4)]) X dX8_lookNext_10 rfl (by decide) rfl ?_
  refine wg_iload X 0 dX8_lookNext_12 rfl ?_
  refine wg_if_eq X 20 dX8_lookNext_14 (by decide) (fun c3 => ?_) (fun c3 => ?_)
  · have h := if_t c3 h
    refine wg_aload_n X 1 dX8_lookNext_20 rfl rfl ?_
    refine wg_getR (b := 1) X cl8 (SCi hS 0 8 rfl) 0 (by decide) dX8_lookNext_21 k_472 rfl (SCr hS 0 0 1 rfl) ?_
    refine wg_getR (b := 3) X cl0 (SCi hS 1 0 rfl) 1 (by decide) dX8_lookNext_24 k_144 rfl (SCr hS 1 1 3 rfl) ?_
    refine wg_iload_n X 3 dX8_lookNext_27 rfl rfl ?_
    obtain ⟨z4, h⟩ := ck_some h
    refine wg_aalS13 (b := 4 + p2.toNatClampNeg) X (SCi hS 3 13 rfl) (SCl hS 3 8 rfl) z4 (SCp hS (inb_lt z4)).1 dX8_lookNext_28 ?_
    refine wg_astore (lv' := [(6, .ref (ad (4 + p2.toNatClampNeg))), (5, .int r2), (0, .ref (ad 0)), (1, .int p1), (2, .int p2), (3, .int p3), (4, .int p4)]) X dX8_lookNext_29 rfl (by decide) rfl ?_
    refine wg_aload_n X 2 dX8_lookNext_31 rfl rfl ?_
    refine wg_aload_n X 2 dX8_lookNext_32 rfl rfl ?_
    refine wg_getR (b := 39) X cl8 (SCi hS 0 8 rfl) 7 (by decide) dX8_lookNext_33 k_479 rfl (SCr hS 0 7 39 rfl) ?_
    refine wg_iload_n X 3 dX8_lookNext_36 rfl rfl ?_
    obtain ⟨z5, h⟩ := ck_some h
    refine wg_aalS14 (b := 44 + 2 * p1.toNatClampNeg) X (SCi hS 39 14 rfl) (SCl hS 39 4 rfl) z5 (SCs hS (inb_lt z5)).1 dX8_lookNext_37 ?_
    refine wg_aload X 0 dX8_lookNext_38 rfl ?_
    refine wg_iload_n X 5 dX8_lookNext_40 rfl rfl ?_
    obtain ⟨r7, C8, h6, h⟩ := bd2_some h
    refine wg_callVi (As := [.ref (ad (44 + 2 * p1.toNatClampNeg)), .ref (ad (4 + p2.toNatClampNeg)), .int p3]) (rest := []) X (c_X8_fittingShifts l E ad S hS N C M (44 + 2 * p1.toNatClampNeg) (4 + p2.toNatClampNeg) p3 ((SCs hS (inb_lt z5)).2) ((SCp hS (inb_lt z4)).2.1) h6) T_yX8_fittingShifts k_729 cl8 (SCi hS 0 8 rfl) dX8_lookNext_41 rfl rfl (Nat.le_of_ble_eq_true rfl) ⟨Nat.le_of_ble_eq_true rfl, Nat.le_of_ble_eq_true rfl⟩ ⟨Nat.zero_le _, Nat.zero_le _⟩ ?_
    refine wg_istore (lv' := [(7, .int r7), (6, .ref (ad (4 + p2.toNatClampNeg))), (5, .int r2), (0, .ref (ad 0)), (1, .int p1), (2, .int p2), (3, .int p3), (4, .int p4)]) X dX8_lookNext_44 rfl (by decide) rfl ?_
    refine wg_iconst (v := 0) X dX8_lookNext_46 (by decide) ?_
    refine wg_istore (lv' := [(8, .int (0 : Int32)), (7, .int r7), (6, .ref (ad (4 + p2.toNatClampNeg))), (5, .int r2), (0, .ref (ad 0)), (1, .int p1), (2, .int p2), (3, .int p3), (4, .int p4)]) X dX8_lookNext_47 rfl (by decide) rfl ?_
    refine wg_iconst (v := 0) X dX8_lookNext_49 (by decide) ?_
    refine wg_istore (lv' := [(9, .int (0 : Int32)), (8, .int (0 : Int32)), (7, .int r7), (6, .ref (ad (4 + p2.toNatClampNeg))), (5, .int r2), (0, .ref (ad 0)), (1, .int p1), (2, .int p2), (3, .int p3), (4, .int p4)]) X dX8_lookNext_50 rfl (by decide) rfl ?_
    refine wg_iconst (v := 0) X dX8_lookNext_52 (by decide) ?_
    refine wg_istore (lv' := [(10, .int (0 : Int32)), (9, .int (0 : Int32)), (8, .int (0 : Int32)), (7, .int r7), (6, .ref (ad (4 + p2.toNatClampNeg))), (5, .int r2), (0, .ref (ad 0)), (1, .int p1), (2, .int p2), (3, .int p3), (4, .int p4)]) X dX8_lookNext_53 rfl (by decide) rfl ?_
    obtain ⟨o22, h23, h⟩ := bd4_o h
    refine wg_pick [6, 10, 4, 3, 2, 1, 0] (lv' := [(0, .ref (ad 0)), (4, .int p4), (6, .ref (ad (4 + p2.toNatClampNeg))), (7, .int r7), (8, .int (0 : Int32)), (9, .int (0 : Int32)), (10, .int (0 : Int32))]) rfl ?_
    refine L_X8_lookNext_l55 X hr hS r0 D0 M N   p4 (4 + p2.toNatClampNeg) r7 ((SCp hS (inb_lt z4)).2.1) N C8 (0 : Int32) (0 : Int32) (0 : Int32) o22 h23 (fun C18 v19 v20 v21 e25 => ?_)
    · subst o22
      replace h := bd4_in h
      refine wg_iload X 1 dX8_lookNext_95 rfl ?_
      refine wg_if_ne X 105 dX8_lookNext_97 (by decide) (fun c26 => ?_) (fun c26 => ?_)
      · have h := if_f c26 h
        refine wg_iload X 5 dX8_lookNext_105 rfl ?_
        exact wg_iret X ⟨(Prod.mk.inj (sm_inj h)).1, (Prod.mk.inj (sm_inj h)).2, rfl⟩ hr dX8_lookNext_107
      · have h := if_t c26 h
        refine wg_iload X 4 dX8_lookNext_100 rfl ?_
        refine wg_goto X 107 dX8_lookNext_102 (by decide) ?_
        exact wg_iret X ⟨(Prod.mk.inj (sm_inj h)).1, (Prod.mk.inj (sm_inj h)).2, rfl⟩ hr dX8_lookNext_107
  · have h := if_f c3 h
    refine wg_iload X 0 dX8_lookNext_17 rfl ?_
    exact wg_iret X ⟨(Prod.mk.inj (sm_inj h)).1, (Prod.mk.inj (sm_inj h)).2, rfl⟩ hr dX8_lookNext_19
-- WindowsGive$Sheet.become(II)V ('SH', 'i', 'i')
def f_X4_become (N : Nat) (C : wg_C) (p0 : Nat) (p1 : Int32) (p2 : Int32) : Option wg_C :=
  bd (f_J7_fill_53178 N C (p0 + 1) 40 (0 : Int32)) fun C2 =>
  lt_ (wg_up C2 p0 1 p1) fun C3 =>
  lt_ (wg_up C3 p0 2 p2) fun C5 =>
  some C5
set_option maxHeartbeats 4000000 in
set_option maxRecDepth 100000 in
theorem c_X4_become (l : Launch) (E : wg_Ev) (ad : Nat → Nat) (S : wg_Sh) (hS : wg_SC S) (N : Nat) (C : wg_C) (M : wg_M) (p0 : Nat) (p1 : Int32) (p2 : Int32) (hp0 : wg_Sht S p0) {D0 : wg_C} (h : f_X4_become N C p0 p1 p2 = some D0) : wg_Cv l yX4_become cX4_become 3 none 1 23 E ad S C M [.ref (ad p0), .int p1, .int p2] D0 M := by
  refine wg_start (own := RX4) (by decide +kernel) rfl (Nat.le_of_ble_eq_true rfl) ?_
  intro p e s m below meth c X hr hnm
  refine wg_lv (lv' := [(0, .ref (ad p0)), (1, .int p1), (2, .int p2)]) rfl ?_
  unfold f_X4_become at h
  refine wg_aload_n X 0 dX4_become_0 rfl rfl ?_
  refine wg_getR (b := (p0 + 1)) X cl4 hp0.1 0 (by decide) dX4_become_1 k_269 rfl hp0.2.1 ?_
  refine wg_iconst (v := 0) X dX4_become_4 (by decide) ?_
  obtain ⟨C2, h1, h⟩ := bd_some h
  refine wg_callSv (As := [.ref (ad (p0 + 1)), .int (0 : Int32)]) (rest := []) X (c_J7_fill_53178 l E ad S hS N C M (p0 + 1) 40 (0 : Int32) ⟨hp0.2.2.1, hp0.2.2.2⟩ h1) T_yJ7_fill_53178 k_757 dX4_become_5 rfl rfl (Nat.le_of_ble_eq_true rfl) ⟨Nat.le_of_ble_eq_true rfl, Nat.le_of_ble_eq_true rfl⟩ ⟨Nat.zero_le _, Nat.zero_le _⟩ ?_
  refine wg_aload_n X 0 dX4_become_8 rfl rfl ?_
  refine wg_iload_n X 1 dX4_become_9 rfl rfl ?_
  obtain ⟨C3, e4, h⟩ := lt_some h
  refine wg_putCe X cl4 hp0.1 1 (by decide) dX4_become_10 k_271 rfl rfl rfl rfl e4 ?_
  refine wg_aload_n X 0 dX4_become_13 rfl rfl ?_
  refine wg_iload_n X 2 dX4_become_14 rfl rfl ?_
  obtain ⟨C5, e6, h⟩ := lt_some h
  refine wg_putCe X cl4 hp0.1 2 (by decide) dX4_become_15 k_273 rfl rfl rfl rfl e6 ?_
  exact wg_vret X ⟨(sm_inj h), rfl⟩ hr dX4_become_18
-- WindowsGive$Sheet.put(II)V ('SH', 'i', 'i')
def f_X4_put (C : wg_C) (p0 : Nat) (p1 : Int32) (p2 : Int32) : Option wg_C :=
  if (C p0 1) = 0 then (
    ck (inb p1 40) <|
    lt_ (wg_up C (p0 + 1) p1.toNatClampNeg p2.toInt8.toInt32) fun C10 =>
    some C10)
  else (
    if (C p0 1) = (1 : Int32) then (
      ck (inb p1 40) <|
      lt_ (wg_up C (p0 + 1) p1.toNatClampNeg p2.toInt16.toInt32) fun C7 =>
      some C7)
    else (
      ck (inb p1 40) <|
      lt_ (wg_up C (p0 + 1) p1.toNatClampNeg p2) fun C4 =>
      some C4))
set_option maxHeartbeats 4000000 in
set_option maxRecDepth 100000 in
theorem c_X4_put (l : Launch) (E : wg_Ev) (ad : Nat → Nat) (S : wg_Sh) (hS : wg_SC S) (C : wg_C) (M : wg_M) (p0 : Nat) (p1 : Int32) (p2 : Int32) (hp0 : wg_Sht S p0) {D0 : wg_C} (h : f_X4_put C p0 p1 p2 = some D0) : wg_Cv l yX4_put cX4_put 3 none 0 0 E ad S C M [.ref (ad p0), .int p1, .int p2] D0 M := by
  refine wg_start (own := RX4) (by decide +kernel) rfl (Nat.le_of_ble_eq_true rfl) ?_
  intro p e s m below meth c X hr hnm
  refine wg_lv (lv' := [(0, .ref (ad p0)), (1, .int p1), (2, .int p2)]) rfl ?_
  unfold f_X4_put at h
  refine wg_aload_n X 0 dX4_put_0 rfl rfl ?_
  refine wg_getC X cl4 hp0.1 1 (by decide) dX4_put_1 k_271 rfl ?_
  refine wg_if_ne X 18 dX4_put_4 (by decide) (fun c1 => ?_) (fun c1 => ?_)
  · have h := if_f c1 h
    refine wg_aload_n X 0 dX4_put_18 rfl rfl ?_
    refine wg_getR (b := (p0 + 1)) X cl4 hp0.1 0 (by decide) dX4_put_19 k_269 rfl hp0.2.1 ?_
    refine wg_iload_n X 1 dX4_put_22 rfl rfl ?_
    refine wg_aload_n X 0 dX4_put_23 rfl rfl ?_
    refine wg_getC X cl4 hp0.1 1 (by decide) dX4_put_24 k_271 rfl ?_
    refine wg_iconst (v := 1) X dX4_put_27 (by decide) ?_
    refine wg_icmp_ne X 36 dX4_put_28 (by decide) (fun c2 => ?_) (fun c2 => ?_)
    · have h := if_f c2 h
      refine wg_iload_n X 2 dX4_put_36 rfl rfl ?_
      obtain ⟨z3, h⟩ := ck_some h
      obtain ⟨C4, e5, h⟩ := lt_some h
      refine wg_iaste X hp0.2.2.1 hp0.2.2.2 z3 dX4_put_37 e5 ?_
      exact wg_vret X ⟨(sm_inj h), rfl⟩ hr dX4_put_38
    · have h := if_t c2 h
      refine wg_iload_n X 2 dX4_put_31 rfl rfl ?_
      refine wg_i2s X dX4_put_32 ?_
      refine wg_goto X 37 dX4_put_33 (by decide) ?_
      obtain ⟨z6, h⟩ := ck_some h
      obtain ⟨C7, e8, h⟩ := lt_some h
      refine wg_iaste X hp0.2.2.1 hp0.2.2.2 z6 dX4_put_37 e8 ?_
      exact wg_vret X ⟨(sm_inj h), rfl⟩ hr dX4_put_38
  · have h := if_t c1 h
    refine wg_aload_n X 0 dX4_put_7 rfl rfl ?_
    refine wg_getR (b := (p0 + 1)) X cl4 hp0.1 0 (by decide) dX4_put_8 k_269 rfl hp0.2.1 ?_
    refine wg_iload_n X 1 dX4_put_11 rfl rfl ?_
    refine wg_iload_n X 2 dX4_put_12 rfl rfl ?_
    refine wg_i2b X dX4_put_13 ?_
    obtain ⟨z9, h⟩ := ck_some h
    obtain ⟨C10, e11, h⟩ := lt_some h
    refine wg_iaste X hp0.2.2.1 hp0.2.2.2 z9 dX4_put_14 e11 ?_
    refine wg_goto X 38 dX4_put_15 (by decide) ?_
    exact wg_vret X ⟨(sm_inj h), rfl⟩ hr dX4_put_38
-- WindowsGive.film(IIII)I (('c', 0), 'i', 'i', 'i', 'i')
def f_X8_film_l59 (N : Nat)  (x2 : Int32) (x3 : Int32) (x4 : Int32) (x5 : Nat) (C : wg_C) (x6 : Int32) : Option ((wg_C × Int32) ⊕ (wg_C × Int32)) :=
  if x4 ≤ x6 then (
    some (.inr (C, x6)))
  else (
    ck (inb x2 8) <|
    bd (f_X0_shows C (4 + x2.toNatClampNeg) (x3 + x6)) fun r18 =>
    bd (f_X4_put C x5 x6 r18) fun C20 =>
    lt_ (x6 + (1 : Int32)) fun v21 =>
    some (.inl (C20, v21)))
def f_X8_film (N : Nat) (C : wg_C) (p1 : Int32) (p2 : Int32) (p3 : Int32) (p4 : Int32) : Option (Int32 × wg_C) :=
  bd (f_X8_isSheet p1) fun r2 =>
  if r2 = 0 then (
    some ((-2 : Int32), C))
  else (
    bd (f_X0_has C p2) fun r5 =>
    if r5 = 0 then (
      some ((-2 : Int32), C))
    else (
      bd (f_X8_isDay p3) fun r8 =>
      if r8 = 0 then (
        some ((-2 : Int32), C))
      else (
        if p4 < 0 then (
          some ((-2 : Int32), C))
        else (
          if p4 ≤ (10 : Int32) then (
            ck (inb p1 4) <|
            bd (f_X4_become N C (44 + 2 * p1.toNatClampNeg) (0 : Int32) p4) fun C14 =>
            bd2 (lp (fun o => f_X8_film_l59 N  p2 p3 p4 (44 + 2 * p1.toNatClampNeg) o.1 o.2) N (C14, (0 : Int32))) fun C23 v24 =>
            some (p4, C23))
          else (
            some ((-2 : Int32), C))))))
abbrev G_X8_film (p : Program) (l : Launch) (e : Env) (s : State) (m : MethodId) (args : Array Value) (below : List Frame) (meth : Method) (c : Code) (E : wg_Ev) (ad : Nat → Nat) (S : wg_Sh) (r0 : Int32) (C0 : wg_C) (M0 : wg_M) (pc : Nat) (C : wg_C) (M : wg_M) (lv : List (Nat × Value)) (st : List Value) : Prop := wg_G p l e (wg_Rm 3 66) s m args below meth c (MQ below (wg_Qi E ad S r0 C0 M0) args s 0 0 (wg_A E)) 7 E ad S 0 0 pc C M lv st
set_option maxHeartbeats 4000000 in
set_option maxRecDepth 100000 in
theorem L_X8_film_l59 {p : Program} {l : Launch} {e : Env} {s : State} {m : MethodId} {args : Array Value} {below : List Frame} {meth : Method} {c : Code} {E : wg_Ev} {ad : Nat → Nat} {S : wg_Sh} (X : wg_X p s m args meth c cX8_film 7 RX8 E) (hr : meth.sig.returnType = (some .int)) (hS : wg_SC S) (r0 : Int32) (D0 : wg_C) (M : wg_M) (N : Nat)   (x2 : Int32) (x3 : Int32) (x4 : Int32) (x5 : Nat) (hx5 : wg_Sht S x5) : ∀ (n : Nat) (C : wg_C) (x6 : Int32) (o : (wg_C × Int32)), lp (fun o => f_X8_film_l59 N  x2 x3 x4 x5 o.1 o.2) n (C, x6) = some o → (∀ (Dy : wg_C) (y6 : Int32), o = (Dy, y6) → G_X8_film p l e s m args below meth c E ad S r0 D0 M 99 Dy M [(0, .ref (ad 0)), (2, .int x2), (3, .int x3), (4, .int x4), (5, .ref (ad x5)), (6, .int y6)] []) → G_X8_film p l e s m args below meth c E ad S r0 D0 M 59 C M [(0, .ref (ad 0)), (2, .int x2), (3, .int x3), (4, .int x4), (5, .ref (ad x5)), (6, .int x6)] [] := by
  intro n
  induction n with
  | zero => exact fun _ _ o h => (lp_zero h).elim
  | succ n ih =>
    intro C x6 o h K
    obtain ⟨o1, hb, h2⟩ := lp_some h
    replace hb : f_X8_film_l59 N  x2 x3 x4 x5 C x6 = some o1 := hb
    clear h
    have Kc : ∀ (Dy : wg_C) (y6 : Int32), o1 = Sum.inl (Dy, y6) → G_X8_film p l e s m args below meth c E ad S r0 D0 M 59 Dy M [(0, .ref (ad 0)), (2, .int x2), (3, .int x3), (4, .int x4), (5, .ref (ad x5)), (6, .int y6)] [] := fun Dy y6 e1 => by
      subst e1
      exact ih Dy y6 o h2 K
    have Ke : ∀ (Dy : wg_C) (y6 : Int32), o1 = Sum.inr ((Dy, y6)) → G_X8_film p l e s m args below meth c E ad S r0 D0 M 99 Dy M [(0, .ref (ad 0)), (2, .int x2), (3, .int x3), (4, .int x4), (5, .ref (ad x5)), (6, .int y6)] [] := fun Dy y6 e1 => by
      subst e1
      exact K Dy y6 (sm_inj (α := (wg_C × Int32)) h2).symm
    clear ih K h2
    unfold f_X8_film_l59 at hb
    have h := hb
    clear hb
    refine wg_iload X 5 dX8_film_59 rfl ?_
    refine wg_iload X 3 dX8_film_61 rfl ?_
    refine wg_icmp_ge X 99 dX8_film_63 (by decide) (fun c15 => ?_) (fun c15 => ?_)
    · have h := if_t c15 h
      exact Ke C x6 (sm_inj h).symm
    · have h := if_f c15 h
      refine wg_aload X 4 dX8_film_66 rfl ?_
      refine wg_iload X 5 dX8_film_68 rfl ?_
      refine wg_aload_n X 0 dX8_film_70 rfl rfl ?_
      refine wg_getR (b := 1) X cl8 (SCi hS 0 8 rfl) 0 (by decide) dX8_film_71 k_472 rfl (SCr hS 0 0 1 rfl) ?_
      refine wg_aload_n X 0 dX8_film_74 rfl rfl ?_
      refine wg_getR (b := 1) X cl8 (SCi hS 0 8 rfl) 0 (by decide) dX8_film_75 k_472 rfl (SCr hS 0 0 1 rfl) ?_
      refine wg_getR (b := 3) X cl0 (SCi hS 1 0 rfl) 1 (by decide) dX8_film_78 k_144 rfl (SCr hS 1 1 3 rfl) ?_
      refine wg_iload_n X 1 dX8_film_81 rfl rfl ?_
      obtain ⟨z16, h⟩ := ck_some h
      refine wg_aalS13 (b := 4 + x2.toNatClampNeg) X (SCi hS 3 13 rfl) (SCl hS 3 8 rfl) z16 (SCp hS (inb_lt z16)).1 dX8_film_82 ?_
      refine wg_iload_n X 2 dX8_film_83 rfl rfl ?_
      refine wg_iload X 5 dX8_film_84 rfl ?_
      refine wg_iadd X dX8_film_86 ?_
      obtain ⟨r18, h17, h⟩ := bd_some h
      refine wg_callVi (As := [.ref (ad (4 + x2.toNatClampNeg)), .int (x3 + x6)]) (rest := [.int x6, .ref (ad x5)]) X (c_X0_shows l E ad S hS C M (4 + x2.toNatClampNeg) (x3 + x6) ((SCp hS (inb_lt z16)).2.1) h17) T_yX0_shows k_722 cl0 (SCi hS 1 0 rfl) dX8_film_87 rfl rfl (Nat.le_of_ble_eq_true rfl) ⟨Nat.le_of_ble_eq_true rfl, Nat.le_of_ble_eq_true rfl⟩ ⟨Nat.zero_le _, Nat.zero_le _⟩ ?_
      obtain ⟨C20, h19, h⟩ := bd_some h
      refine wg_callVv (As := [.int x6, .int r18]) (rest := []) X (c_X4_put l E ad S hS C M x5 x6 r18 hx5 h19) T_yX4_put k_758 cl4 hx5.1 dX8_film_90 rfl rfl (Nat.le_of_ble_eq_true rfl) ⟨Nat.le_of_ble_eq_true rfl, Nat.le_of_ble_eq_true rfl⟩ ⟨Nat.zero_le _, Nat.zero_le _⟩ ?_
      obtain ⟨v21, e22, h⟩ := lt_some h
      refine wg_iinc (lv' := [(6, .int v21), (0, .ref (ad 0)), (2, .int x2), (3, .int x3), (4, .int x4), (5, .ref (ad x5))]) X 5 dX8_film_93 rfl e22 (by decide) rfl ?_
      refine wg_goto X 59 dX8_film_96 (by decide) ?_
      refine wg_pick [1, 2, 3, 4, 5, 0] (lv' := [(0, .ref (ad 0)), (2, .int x2), (3, .int x3), (4, .int x4), (5, .ref (ad x5)), (6, .int v21)]) rfl ?_
      exact Kc C20 v21 (sm_inj h).symm
set_option maxHeartbeats 4000000 in
set_option maxRecDepth 100000 in
theorem c_X8_film (l : Launch) (E : wg_Ev) (ad : Nat → Nat) (S : wg_Sh) (hS : wg_SC S) (N : Nat) (C : wg_C) (M : wg_M) (p1 : Int32) (p2 : Int32) (p3 : Int32) (p4 : Int32)  {r0 : Int32} {D0 : wg_C} (h : f_X8_film N C p1 p2 p3 p4 = some (r0, D0)) : wg_Ci l yX8_film cX8_film 7 (some .int) 3 66 E ad S C M [.ref (ad 0), .int p1, .int p2, .int p3, .int p4] r0 D0 M := by
  refine wg_start (own := RX8) (by decide +kernel) rfl (Nat.le_of_ble_eq_true rfl) ?_
  intro p e s m below meth c X hr hnm
  refine wg_lv (lv' := [(0, .ref (ad 0)), (1, .int p1), (2, .int p2), (3, .int p3), (4, .int p4)]) rfl ?_
  unfold f_X8_film at h
  refine wg_iload_n X 1 dX8_film_0 rfl rfl ?_
  obtain ⟨r2, h1, h⟩ := bd_some h
  refine wg_callSi (As := [.int p1]) (rest := []) X (c_X8_isSheet l E ad S C M p1  h1) T_yX8_isSheet k_711 dX8_film_1 rfl rfl (Nat.le_of_ble_eq_true rfl) ⟨Nat.le_of_ble_eq_true rfl, Nat.le_of_ble_eq_true rfl⟩ ⟨Nat.zero_le _, Nat.zero_le _⟩ ?_
  refine wg_if_eq X 37 dX8_film_4 (by decide) (fun c3 => ?_) (fun c3 => ?_)
  · have h := if_t c3 h
    refine wg_bipush (v := -2) X dX8_film_37 (by decide) ?_
    exact wg_iret X ⟨(Prod.mk.inj (sm_inj h)).1, (Prod.mk.inj (sm_inj h)).2, rfl⟩ hr dX8_film_39
  · have h := if_f c3 h
    refine wg_aload_n X 0 dX8_film_7 rfl rfl ?_
    refine wg_getR (b := 1) X cl8 (SCi hS 0 8 rfl) 0 (by decide) dX8_film_8 k_472 rfl (SCr hS 0 0 1 rfl) ?_
    refine wg_iload_n X 2 dX8_film_11 rfl rfl ?_
    obtain ⟨r5, h4, h⟩ := bd_some h
    refine wg_callVi (As := [.int p2]) (rest := []) X (c_X0_has l E ad S hS C M p2  h4) T_yX0_has k_520 cl0 (SCi hS 1 0 rfl) dX8_film_12 rfl rfl (Nat.le_of_ble_eq_true rfl) ⟨Nat.le_of_ble_eq_true rfl, Nat.le_of_ble_eq_true rfl⟩ ⟨Nat.zero_le _, Nat.zero_le _⟩ ?_
    refine wg_if_eq X 37 dX8_film_15 (by decide) (fun c6 => ?_) (fun c6 => ?_)
    · have h := if_t c6 h
      refine wg_bipush (v := -2) X dX8_film_37 (by decide) ?_
      exact wg_iret X ⟨(Prod.mk.inj (sm_inj h)).1, (Prod.mk.inj (sm_inj h)).2, rfl⟩ hr dX8_film_39
    · have h := if_f c6 h
      refine wg_iload_n X 3 dX8_film_18 rfl rfl ?_
      obtain ⟨r8, h7, h⟩ := bd_some h
      refine wg_callSi (As := [.int p3]) (rest := []) X (c_X8_isDay l E ad S C M p3  h7) T_yX8_isDay k_517 dX8_film_19 rfl rfl (Nat.le_of_ble_eq_true rfl) ⟨Nat.le_of_ble_eq_true rfl, Nat.le_of_ble_eq_true rfl⟩ ⟨Nat.zero_le _, Nat.zero_le _⟩ ?_
      refine wg_if_eq X 37 dX8_film_22 (by decide) (fun c9 => ?_) (fun c9 => ?_)
      · have h := if_t c9 h
        refine wg_bipush (v := -2) X dX8_film_37 (by decide) ?_
        exact wg_iret X ⟨(Prod.mk.inj (sm_inj h)).1, (Prod.mk.inj (sm_inj h)).2, rfl⟩ hr dX8_film_39
      · have h := if_f c9 h
        refine wg_iload X 4 dX8_film_25 rfl ?_
        refine wg_if_lt X 37 dX8_film_27 (by decide) (fun c10 => ?_) (fun c10 => ?_)
        · have h := if_t c10 h
          refine wg_bipush (v := -2) X dX8_film_37 (by decide) ?_
          exact wg_iret X ⟨(Prod.mk.inj (sm_inj h)).1, (Prod.mk.inj (sm_inj h)).2, rfl⟩ hr dX8_film_39
        · have h := if_f c10 h
          refine wg_iload X 4 dX8_film_30 rfl ?_
          refine wg_bipush (v := 10) X dX8_film_32 (by decide) ?_
          refine wg_icmp_le X 40 dX8_film_34 (by decide) (fun c11 => ?_) (fun c11 => ?_)
          · have h := if_t c11 h
            refine wg_aload_n X 0 dX8_film_40 rfl rfl ?_
            refine wg_getR (b := 39) X cl8 (SCi hS 0 8 rfl) 7 (by decide) dX8_film_41 k_479 rfl (SCr hS 0 7 39 rfl) ?_
            refine wg_iload_n X 1 dX8_film_44 rfl rfl ?_
            obtain ⟨z12, h⟩ := ck_some h
            refine wg_aalS14 (b := 44 + 2 * p1.toNatClampNeg) X (SCi hS 39 14 rfl) (SCl hS 39 4 rfl) z12 (SCs hS (inb_lt z12)).1 dX8_film_45 ?_
            refine wg_astore (lv' := [(5, .ref (ad (44 + 2 * p1.toNatClampNeg))), (0, .ref (ad 0)), (1, .int p1), (2, .int p2), (3, .int p3), (4, .int p4)]) X dX8_film_46 rfl (by decide) rfl ?_
            refine wg_aload X 0 dX8_film_48 rfl ?_
            refine wg_iconst (v := 0) X dX8_film_50 (by decide) ?_
            refine wg_iload X 5 dX8_film_51 rfl ?_
            obtain ⟨C14, h13, h⟩ := bd_some h
            refine wg_callVv (As := [.int (0 : Int32), .int p4]) (rest := []) X (c_X4_become l E ad S hS N C M (44 + 2 * p1.toNatClampNeg) (0 : Int32) p4 ((SCs hS (inb_lt z12)).2) h13) T_yX4_become k_753 cl4 ((SCs hS (inb_lt z12)).2.1) dX8_film_53 rfl rfl (Nat.le_of_ble_eq_true rfl) ⟨Nat.le_of_ble_eq_true rfl, Nat.le_of_ble_eq_true rfl⟩ ⟨Nat.zero_le _, Nat.zero_le _⟩ ?_
            refine wg_iconst (v := 0) X dX8_film_56 (by decide) ?_
            refine wg_istore (lv' := [(6, .int (0 : Int32)), (5, .ref (ad (44 + 2 * p1.toNatClampNeg))), (0, .ref (ad 0)), (1, .int p1), (2, .int p2), (3, .int p3), (4, .int p4)]) X dX8_film_57 rfl (by decide) rfl ?_
            obtain ⟨o25, h26, h⟩ := bd2_o h
            refine wg_pick [2, 4, 5, 6, 1, 0] (lv' := [(0, .ref (ad 0)), (2, .int p2), (3, .int p3), (4, .int p4), (5, .ref (ad (44 + 2 * p1.toNatClampNeg))), (6, .int (0 : Int32))]) rfl ?_
            refine L_X8_film_l59 X hr hS r0 D0 M N   p2 p3 p4 (44 + 2 * p1.toNatClampNeg) ((SCs hS (inb_lt z12)).2) N C14 (0 : Int32) o25 h26 (fun C23 v24 e28 => ?_)
            · subst o25
              replace h := bd2_in h
              refine wg_iload X 3 dX8_film_99 rfl ?_
              exact wg_iret X ⟨(Prod.mk.inj (sm_inj h)).1, (Prod.mk.inj (sm_inj h)).2, rfl⟩ hr dX8_film_101
          · have h := if_f c11 h
            refine wg_bipush (v := -2) X dX8_film_37 (by decide) ?_
            exact wg_iret X ⟨(Prod.mk.inj (sm_inj h)).1, (Prod.mk.inj (sm_inj h)).2, rfl⟩ hr dX8_film_39
-- WindowsGive.flood(I[I)I (('c', 0), 'i', 'IA')
def f_X8_flood_l40 (N : Nat) (S : wg_Sh) (p2 n2 : Nat)  (x1 : Int32) (x4 : Int32) (x5 : Nat) (C : wg_C) (x3 : Int32) (x6 : Int32) : Option ((wg_C × Int32 × Int32) ⊕ (wg_C × Int32 × Int32)) :=
  if (32 : Int32) ≤ x6 then (
    some (.inr (C, x3, x6)))
  else (
    bd (f_X1_leads C x5) fun r7 =>
    if r7 = x1 then (
      bd (f_X1_passes C x5 x6 (2 : Int32)) fun r10 =>
      if r10 = 0 then (
        lt_ (x6 + (1 : Int32)) fun v12 =>
        some (.inl (C, x3, v12)))
      else (
        bd2 (f_X3_worth N S C (C 1 3) (1 : Int32) x5 x6 p2 n2) fun r15 C16 =>
        bd (f_X1_on C16 x5 x6) fun r18 =>
        ck (inb r18 32) <|
        ck (inb r18 32) <|
        lt_ (wg_up C16 41 r18.toNatClampNeg ((C16 41 r18.toNatClampNeg) + r15)) fun C21 =>
        lt_ (x3 + r15) fun v23 =>
        lt_ (x6 + (1 : Int32)) fun v25 =>
        some (.inl (C21, v23, v25))))
    else (
      some (.inr (C, x3, x6))))
def f_X8_flood_l13 (N : Nat) (S : wg_Sh) (p2 n2 : Nat)  (x1 : Int32) (C : wg_C) (x3 : Int32) (x4 : Int32) : Option ((wg_C × Int32 × Int32) ⊕ (wg_C × Int32 × Int32)) :=
  if (C 1 2) ≤ x4 then (
    some (.inr (C, x3, x4)))
  else (
    ck (inb x4 8) <|
    bd3 (lp (fun o => f_X8_flood_l40 N S p2 n2  x1 x4 (4 + x4.toNatClampNeg) o.1 o.2.1 o.2.2) N (C, x3, (0 : Int32))) fun C27 v28 v29 =>
    lt_ (x4 + (1 : Int32)) fun v34 =>
    some (.inl (C27, v28, v34)))
def f_X8_flood (N : Nat) (S : wg_Sh) (C : wg_C) (p1 : Int32) (p2 n2 : Nat) : Option (Int32 × wg_C) :=
  bd (f_J7_fill_53178 N C 41 32 (0 : Int32)) fun C2 =>
  bd3 (lp (fun o => f_X8_flood_l13 N S p2 n2  p1 o.1 o.2.1 o.2.2) N (C2, (0 : Int32), (0 : Int32))) fun C36 v37 v38 =>
  some (v37, C36)
abbrev G_X8_flood (p : Program) (l : Launch) (e : Env) (s : State) (m : MethodId) (args : Array Value) (below : List Frame) (meth : Method) (c : Code) (E : wg_Ev) (ad : Nat → Nat) (S : wg_Sh) (r0 : Int32) (C0 : wg_C) (M0 : wg_M) (pc : Nat) (C : wg_C) (M : wg_M) (lv : List (Nat × Value)) (st : List Value) : Prop := wg_G p l e (wg_Rm 4 96) s m args below meth c (MQ below (wg_Qi E ad S r0 C0 M0) args s 0 0 (wg_A E)) 8 E ad S 0 0 pc C M lv st
set_option maxHeartbeats 4000000 in
set_option maxRecDepth 100000 in
theorem L_X8_flood_l40 {p : Program} {l : Launch} {e : Env} {s : State} {m : MethodId} {args : Array Value} {below : List Frame} {meth : Method} {c : Code} {E : wg_Ev} {ad : Nat → Nat} {S : wg_Sh} (X : wg_X p s m args meth c cX8_flood 8 RX8 E) (hr : meth.sig.returnType = (some .int)) (hS : wg_SC S) (r0 : Int32) (D0 : wg_C) (M : wg_M) (N : Nat) (p2 n2 : Nat) (hp2 : wg_IA S p2 n2)  (x1 : Int32) (x4 : Int32) (x5 : Nat) (hx5 : wg_id S x5 1) : ∀ (n : Nat) (C : wg_C) (x3 : Int32) (x6 : Int32) (o : (wg_C × Int32 × Int32)), lp (fun o => f_X8_flood_l40 N S p2 n2  x1 x4 x5 o.1 o.2.1 o.2.2) n (C, x3, x6) = some o → (∀ (Dy : wg_C) (y3 : Int32) (y6 : Int32), o = (Dy, y3, y6) → G_X8_flood p l e s m args below meth c E ad S r0 D0 M 117 Dy M [(0, .ref (ad 0)), (1, .int x1), (2, .ref (ad p2)), (3, .int y3), (4, .int x4), (5, .ref (ad x5)), (6, .int y6)] []) → G_X8_flood p l e s m args below meth c E ad S r0 D0 M 40 C M [(0, .ref (ad 0)), (1, .int x1), (2, .ref (ad p2)), (3, .int x3), (4, .int x4), (5, .ref (ad x5)), (6, .int x6)] [] := by
  intro n
  induction n with
  | zero => exact fun _ _ _ o h => (lp_zero h).elim
  | succ n ih =>
    intro C x3 x6 o h K
    obtain ⟨o1, hb, h2⟩ := lp_some h
    replace hb : f_X8_flood_l40 N S p2 n2  x1 x4 x5 C x3 x6 = some o1 := hb
    clear h
    have Kc : ∀ (Dy : wg_C) (y3 : Int32) (y6 : Int32), o1 = Sum.inl (Dy, y3, y6) → G_X8_flood p l e s m args below meth c E ad S r0 D0 M 40 Dy M [(0, .ref (ad 0)), (1, .int x1), (2, .ref (ad p2)), (3, .int y3), (4, .int x4), (5, .ref (ad x5)), (6, .int y6)] [] := fun Dy y3 y6 e1 => by
      subst e1
      exact ih Dy y3 y6 o h2 K
    have Ke : ∀ (Dy : wg_C) (y3 : Int32) (y6 : Int32), o1 = Sum.inr ((Dy, y3, y6)) → G_X8_flood p l e s m args below meth c E ad S r0 D0 M 117 Dy M [(0, .ref (ad 0)), (1, .int x1), (2, .ref (ad p2)), (3, .int y3), (4, .int x4), (5, .ref (ad x5)), (6, .int y6)] [] := fun Dy y3 y6 e1 => by
      subst e1
      exact K Dy y3 y6 (sm_inj (α := (wg_C × Int32 × Int32)) h2).symm
    clear ih K h2
    unfold f_X8_flood_l40 at hb
    have h := hb
    clear hb
    refine wg_iload X 6 dX8_flood_40 rfl ?_
    refine wg_bipush (v := 32) X dX8_flood_42 (by decide) ?_
    refine wg_icmp_ge X 117 dX8_flood_44 (by decide) (fun c5 => ?_) (fun c5 => ?_)
    · have h := if_t c5 h
      exact Ke C x3 x6 (sm_inj h).symm
    · have h := if_f c5 h
      refine wg_aload X 5 dX8_flood_47 rfl ?_
      obtain ⟨r7, h6, h⟩ := bd_some h
      refine wg_callVi (As := []) (rest := []) X (c_X1_leads l E ad S hS C M x5 hx5 h6) T_yX1_leads k_771 cl1 hx5 dX8_flood_49 rfl rfl (Nat.le_of_ble_eq_true rfl) ⟨Nat.le_of_ble_eq_true rfl, Nat.le_of_ble_eq_true rfl⟩ ⟨Nat.zero_le _, Nat.zero_le _⟩ ?_
      refine wg_iload_n X 1 dX8_flood_52 rfl rfl ?_
      refine wg_icmp_ne X 117 dX8_flood_53 (by decide) (fun c8 => ?_) (fun c8 => ?_)
      · have h := if_f c8 h
        exact Ke C x3 x6 (sm_inj h).symm
      · have h := if_t c8 h
        refine wg_aload X 5 dX8_flood_56 rfl ?_
        refine wg_iload X 6 dX8_flood_58 rfl ?_
        refine wg_iconst (v := 2) X dX8_flood_60 (by decide) ?_
        obtain ⟨r10, h9, h⟩ := bd_some h
        refine wg_callVi (As := [.int x6, .int (2 : Int32)]) (rest := []) X (c_X1_passes l E ad S hS C M x5 x6 (2 : Int32) hx5 h9) T_yX1_passes k_561 cl1 hx5 dX8_flood_61 rfl rfl (Nat.le_of_ble_eq_true rfl) ⟨Nat.le_of_ble_eq_true rfl, Nat.le_of_ble_eq_true rfl⟩ ⟨Nat.zero_le _, Nat.zero_le _⟩ ?_
        refine wg_if_eq X 111 dX8_flood_64 (by decide) (fun c11 => ?_) (fun c11 => ?_)
        · have h := if_t c11 h
          obtain ⟨v12, e13, h⟩ := lt_some h
          refine wg_iinc (lv' := [(6, .int v12), (0, .ref (ad 0)), (1, .int x1), (2, .ref (ad p2)), (3, .int x3), (4, .int x4), (5, .ref (ad x5))]) X 6 dX8_flood_111 rfl e13 (by decide) rfl ?_
          refine wg_goto X 40 dX8_flood_114 (by decide) ?_
          refine wg_pick [1, 2, 3, 4, 5, 6, 0] (lv' := [(0, .ref (ad 0)), (1, .int x1), (2, .ref (ad p2)), (3, .int x3), (4, .int x4), (5, .ref (ad x5)), (6, .int v12)]) rfl ?_
          exact Kc C x3 v12 (sm_inj h).symm
        · have h := if_f c11 h
          refine wg_aload_n X 0 dX8_flood_67 rfl rfl ?_
          refine wg_getR (b := 31) X cl8 (SCi hS 0 8 rfl) 5 (by decide) dX8_flood_68 k_477 rfl (SCr hS 0 5 31 rfl) ?_
          refine wg_aload_n X 0 dX8_flood_71 rfl rfl ?_
          refine wg_getR (b := 1) X cl8 (SCi hS 0 8 rfl) 0 (by decide) dX8_flood_72 k_472 rfl (SCr hS 0 0 1 rfl) ?_
          refine wg_getC X cl0 (SCi hS 1 0 rfl) 3 (by decide) dX8_flood_75 k_151 rfl ?_
          refine wg_iconst (v := 1) X dX8_flood_78 (by decide) ?_
          refine wg_aload X 5 dX8_flood_79 rfl ?_
          refine wg_iload X 6 dX8_flood_81 rfl ?_
          refine wg_aload_n X 2 dX8_flood_83 rfl rfl ?_
          obtain ⟨r15, C16, h14, h⟩ := bd2_some h
          refine wg_callVi (As := [.int (C 1 3), .int (1 : Int32), .ref (ad x5), .int x6, .ref (ad p2)]) (rest := []) X (c_X3_worth l E ad S hS N C M (C 1 3) (1 : Int32) x5 x6 p2 n2 hx5 ⟨hp2.1, hp2.2⟩ h14) T_yX3_worth k_772 cl3 (SCi hS 31 3 rfl) dX8_flood_84 rfl rfl (Nat.le_of_ble_eq_true rfl) ⟨Nat.le_of_ble_eq_true rfl, Nat.le_of_ble_eq_true rfl⟩ ⟨Nat.zero_le _, Nat.zero_le _⟩ ?_
          refine wg_istore (lv' := [(7, .int r15), (0, .ref (ad 0)), (1, .int x1), (2, .ref (ad p2)), (3, .int x3), (4, .int x4), (5, .ref (ad x5)), (6, .int x6)]) X dX8_flood_87 rfl (by decide) rfl ?_
          refine wg_aload_n X 1 dX8_flood_89 rfl rfl ?_
          refine wg_getR (b := 41) X cl8 (SCi hS 0 8 rfl) 9 (by decide) dX8_flood_90 k_481 rfl (SCr hS 0 9 41 rfl) ?_
          refine wg_aload X 6 dX8_flood_93 rfl ?_
          refine wg_iload X 7 dX8_flood_95 rfl ?_
          obtain ⟨r18, h17, h⟩ := bd_some h
          refine wg_callVi (As := [.int x6]) (rest := [.ref (ad 41)]) X (c_X1_on l E ad S hS C16 M x5 x6 hx5 h17) T_yX1_on k_557 cl1 hx5 dX8_flood_97 rfl rfl (Nat.le_of_ble_eq_true rfl) ⟨Nat.le_of_ble_eq_true rfl, Nat.le_of_ble_eq_true rfl⟩ ⟨Nat.zero_le _, Nat.zero_le _⟩ ?_
          refine wg_dup2 X dX8_flood_100 rfl rfl ?_
          obtain ⟨z19, h⟩ := ck_some h
          refine wg_iald X (SCi hS 41 10 rfl) (SCl hS 41 32 rfl) z19 dX8_flood_101 ?_
          refine wg_iload X 0 dX8_flood_102 rfl ?_
          refine wg_iadd X dX8_flood_104 ?_
          obtain ⟨z20, h⟩ := ck_some h
          obtain ⟨C21, e22, h⟩ := lt_some h
          refine wg_iaste X (SCi hS 41 10 rfl) (SCl hS 41 32 rfl) z20 dX8_flood_105 e22 ?_
          refine wg_iload_n X 4 dX8_flood_106 rfl rfl ?_
          refine wg_iload X 0 dX8_flood_107 rfl ?_
          refine wg_iadd X dX8_flood_109 ?_
          obtain ⟨v23, e24, h⟩ := lt_some h
          refine wg_istore_n (lv' := [(3, .int v23), (7, .int r15), (0, .ref (ad 0)), (1, .int x1), (2, .ref (ad p2)), (4, .int x4), (5, .ref (ad x5)), (6, .int x6)]) X dX8_flood_110 rfl e24 (by decide) rfl ?_
          obtain ⟨v25, e26, h⟩ := lt_some h
          refine wg_iinc (lv' := [(6, .int v25), (3, .int v23), (7, .int r15), (0, .ref (ad 0)), (1, .int x1), (2, .ref (ad p2)), (4, .int x4), (5, .ref (ad x5))]) X 7 dX8_flood_111 rfl e26 (by decide) rfl ?_
          refine wg_goto X 40 dX8_flood_114 (by decide) ?_
          refine wg_pick [3, 4, 5, 1, 6, 7, 0] (lv' := [(0, .ref (ad 0)), (1, .int x1), (2, .ref (ad p2)), (3, .int v23), (4, .int x4), (5, .ref (ad x5)), (6, .int v25)]) rfl ?_
          exact Kc C21 v23 v25 (sm_inj h).symm
set_option maxHeartbeats 4000000 in
set_option maxRecDepth 100000 in
theorem L_X8_flood_l13 {p : Program} {l : Launch} {e : Env} {s : State} {m : MethodId} {args : Array Value} {below : List Frame} {meth : Method} {c : Code} {E : wg_Ev} {ad : Nat → Nat} {S : wg_Sh} (X : wg_X p s m args meth c cX8_flood 8 RX8 E) (hr : meth.sig.returnType = (some .int)) (hS : wg_SC S) (r0 : Int32) (D0 : wg_C) (M : wg_M) (N : Nat) (p2 n2 : Nat) (hp2 : wg_IA S p2 n2)  (x1 : Int32)  : ∀ (n : Nat) (C : wg_C) (x3 : Int32) (x4 : Int32) (o : (wg_C × Int32 × Int32)), lp (fun o => f_X8_flood_l13 N S p2 n2  x1 o.1 o.2.1 o.2.2) n (C, x3, x4) = some o → (∀ (Dy : wg_C) (y3 : Int32) (y4 : Int32), o = (Dy, y3, y4) → G_X8_flood p l e s m args below meth c E ad S r0 D0 M 123 Dy M [(0, .ref (ad 0)), (1, .int x1), (2, .ref (ad p2)), (3, .int y3), (4, .int y4)] []) → G_X8_flood p l e s m args below meth c E ad S r0 D0 M 13 C M [(0, .ref (ad 0)), (1, .int x1), (2, .ref (ad p2)), (3, .int x3), (4, .int x4)] [] := by
  intro n
  induction n with
  | zero => exact fun _ _ _ o h => (lp_zero h).elim
  | succ n ih =>
    intro C x3 x4 o h K
    obtain ⟨o1, hb, h2⟩ := lp_some h
    replace hb : f_X8_flood_l13 N S p2 n2  x1 C x3 x4 = some o1 := hb
    clear h
    have Kc : ∀ (Dy : wg_C) (y3 : Int32) (y4 : Int32), o1 = Sum.inl (Dy, y3, y4) → G_X8_flood p l e s m args below meth c E ad S r0 D0 M 13 Dy M [(0, .ref (ad 0)), (1, .int x1), (2, .ref (ad p2)), (3, .int y3), (4, .int y4)] [] := fun Dy y3 y4 e1 => by
      subst e1
      exact ih Dy y3 y4 o h2 K
    have Ke : ∀ (Dy : wg_C) (y3 : Int32) (y4 : Int32), o1 = Sum.inr ((Dy, y3, y4)) → G_X8_flood p l e s m args below meth c E ad S r0 D0 M 123 Dy M [(0, .ref (ad 0)), (1, .int x1), (2, .ref (ad p2)), (3, .int y3), (4, .int y4)] [] := fun Dy y3 y4 e1 => by
      subst e1
      exact K Dy y3 y4 (sm_inj (α := (wg_C × Int32 × Int32)) h2).symm
    clear ih K h2
    unfold f_X8_flood_l13 at hb
    have h := hb
    clear hb
    refine wg_iload X 4 dX8_flood_13 rfl ?_
    refine wg_aload_n X 0 dX8_flood_15 rfl rfl ?_
    refine wg_getR (b := 1) X cl8 (SCi hS 0 8 rfl) 0 (by decide) dX8_flood_16 k_472 rfl (SCr hS 0 0 1 rfl) ?_
    refine wg_getC X cl0 (SCi hS 1 0 rfl) 2 (by decide) dX8_flood_19 k_147 rfl ?_
    refine wg_icmp_ge X 123 dX8_flood_22 (by decide) (fun c3 => ?_) (fun c3 => ?_)
    · have h := if_t c3 h
      exact Ke C x3 x4 (sm_inj h).symm
    · have h := if_f c3 h
      refine wg_aload_n X 0 dX8_flood_25 rfl rfl ?_
      refine wg_getR (b := 1) X cl8 (SCi hS 0 8 rfl) 0 (by decide) dX8_flood_26 k_472 rfl (SCr hS 0 0 1 rfl) ?_
      refine wg_getR (b := 3) X cl0 (SCi hS 1 0 rfl) 1 (by decide) dX8_flood_29 k_144 rfl (SCr hS 1 1 3 rfl) ?_
      refine wg_iload X 4 dX8_flood_32 rfl ?_
      obtain ⟨z4, h⟩ := ck_some h
      refine wg_aalS13 (b := 4 + x4.toNatClampNeg) X (SCi hS 3 13 rfl) (SCl hS 3 8 rfl) z4 (SCp hS (inb_lt z4)).1 dX8_flood_34 ?_
      refine wg_astore (lv' := [(5, .ref (ad (4 + x4.toNatClampNeg))), (0, .ref (ad 0)), (1, .int x1), (2, .ref (ad p2)), (3, .int x3), (4, .int x4)]) X dX8_flood_35 rfl (by decide) rfl ?_
      refine wg_iconst (v := 0) X dX8_flood_37 (by decide) ?_
      refine wg_istore (lv' := [(6, .int (0 : Int32)), (5, .ref (ad (4 + x4.toNatClampNeg))), (0, .ref (ad 0)), (1, .int x1), (2, .ref (ad p2)), (3, .int x3), (4, .int x4)]) X dX8_flood_38 rfl (by decide) rfl ?_
      obtain ⟨o30, h31, h⟩ := bd3_o h
      refine wg_pick [2, 3, 4, 5, 6, 1, 0] (lv' := [(0, .ref (ad 0)), (1, .int x1), (2, .ref (ad p2)), (3, .int x3), (4, .int x4), (5, .ref (ad (4 + x4.toNatClampNeg))), (6, .int (0 : Int32))]) rfl ?_
      refine L_X8_flood_l40 X hr hS r0 D0 M N p2 n2 hp2  x1 x4 (4 + x4.toNatClampNeg) ((SCp hS (inb_lt z4)).2.1) N C x3 (0 : Int32) o30 h31 (fun C27 v28 v29 e33 => ?_)
      · subst o30
        replace h := bd3_in h
        obtain ⟨v34, e35, h⟩ := lt_some h
        refine wg_iinc (lv' := [(4, .int v34), (0, .ref (ad 0)), (1, .int x1), (2, .ref (ad p2)), (3, .int v28), (5, .ref (ad (4 + x4.toNatClampNeg))), (6, .int v29)]) X 4 dX8_flood_117 rfl e35 (by decide) rfl ?_
        refine wg_goto X 13 dX8_flood_120 (by decide) ?_
        refine wg_pick [1, 2, 3, 4, 0] (lv' := [(0, .ref (ad 0)), (1, .int x1), (2, .ref (ad p2)), (3, .int v28), (4, .int v34)]) rfl ?_
        exact Kc C27 v28 v34 (sm_inj h).symm
set_option maxHeartbeats 4000000 in
set_option maxRecDepth 100000 in
theorem c_X8_flood (l : Launch) (E : wg_Ev) (ad : Nat → Nat) (S : wg_Sh) (hS : wg_SC S) (N : Nat) (C : wg_C) (M : wg_M) (p1 : Int32) (p2 n2 : Nat) (hp2 : wg_IA S p2 n2) {r0 : Int32} {D0 : wg_C} (h : f_X8_flood N S C p1 p2 n2 = some (r0, D0)) : wg_Ci l yX8_flood cX8_flood 8 (some .int) 4 96 E ad S C M [.ref (ad 0), .int p1, .ref (ad p2)] r0 D0 M := by
  refine wg_start (own := RX8) (by decide +kernel) rfl (Nat.le_of_ble_eq_true rfl) ?_
  intro p e s m below meth c X hr hnm
  refine wg_lv (lv' := [(0, .ref (ad 0)), (1, .int p1), (2, .ref (ad p2))]) rfl ?_
  unfold f_X8_flood at h
  refine wg_aload_n X 0 dX8_flood_0 rfl rfl ?_
  refine wg_getR (b := 41) X cl8 (SCi hS 0 8 rfl) 9 (by decide) dX8_flood_1 k_481 rfl (SCr hS 0 9 41 rfl) ?_
  refine wg_iconst (v := 0) X dX8_flood_4 (by decide) ?_
  obtain ⟨C2, h1, h⟩ := bd_some h
  refine wg_callSv (As := [.ref (ad 41), .int (0 : Int32)]) (rest := []) X (c_J7_fill_53178 l E ad S hS N C M 41 32 (0 : Int32) ⟨(SCi hS 41 10 rfl), (SCl hS 41 32 rfl)⟩ h1) T_yJ7_fill_53178 k_770 dX8_flood_5 rfl rfl (Nat.le_of_ble_eq_true rfl) ⟨Nat.le_of_ble_eq_true rfl, Nat.le_of_ble_eq_true rfl⟩ ⟨Nat.zero_le _, Nat.zero_le _⟩ ?_
  refine wg_iconst (v := 0) X dX8_flood_8 (by decide) ?_
  refine wg_istore_n (lv' := [(3, .int (0 : Int32)), (0, .ref (ad 0)), (1, .int p1), (2, .ref (ad p2))]) X dX8_flood_9 rfl rfl (by decide) rfl ?_
  refine wg_iconst (v := 0) X dX8_flood_10 (by decide) ?_
  refine wg_istore (lv' := [(4, .int (0 : Int32)), (3, .int (0 : Int32)), (0, .ref (ad 0)), (1, .int p1), (2, .ref (ad p2))]) X dX8_flood_11 rfl (by decide) rfl ?_
  obtain ⟨o39, h40, h⟩ := bd3_o h
  refine wg_pick [2, 3, 4, 1, 0] (lv' := [(0, .ref (ad 0)), (1, .int p1), (2, .ref (ad p2)), (3, .int (0 : Int32)), (4, .int (0 : Int32))]) rfl ?_
  refine L_X8_flood_l13 X hr hS r0 D0 M N p2 n2 hp2  p1  N C2 (0 : Int32) (0 : Int32) o39 h40 (fun C36 v37 v38 e42 => ?_)
  · subst o39
    replace h := bd3_in h
    refine wg_iload_n X 3 dX8_flood_123 rfl rfl ?_
    exact wg_iret X ⟨(Prod.mk.inj (sm_inj h)).1, (Prod.mk.inj (sm_inj h)).2, rfl⟩ hr dX8_flood_124
-- WindowsGive.water(II)I (('c', 0), 'i', 'i')
def f_X8_water (N : Nat) (S : wg_Sh) (C : wg_C) (p1 : Int32) (p2 : Int32) : Option (Int32 × wg_C) :=
  bd (f_X8_isRoom p1) fun r2 =>
  if r2 = 0 then (
    some ((-2 : Int32), C))
  else (
    bd (f_X8_isDay p2) fun r5 =>
    if r5 = 0 then (
      some ((-2 : Int32), C))
    else (
      bd2 (f_X8_flood N S C p1 2 32) fun r8 C9 =>
      ck (inb p2 32) <|
      some ((C9 41 p2.toNatClampNeg), C9)))
set_option maxHeartbeats 4000000 in
set_option maxRecDepth 100000 in
theorem c_X8_water (l : Launch) (E : wg_Ev) (ad : Nat → Nat) (S : wg_Sh) (hS : wg_SC S) (N : Nat) (C : wg_C) (M : wg_M) (p1 : Int32) (p2 : Int32)  {r0 : Int32} {D0 : wg_C} (h : f_X8_water N S C p1 p2 = some (r0, D0)) : wg_Ci l yX8_water cX8_water 3 (some .int) 5 123 E ad S C M [.ref (ad 0), .int p1, .int p2] r0 D0 M := by
  refine wg_start (own := RX8) (by decide +kernel) rfl (Nat.le_of_ble_eq_true rfl) ?_
  intro p e s m below meth c X hr hnm
  refine wg_lv (lv' := [(0, .ref (ad 0)), (1, .int p1), (2, .int p2)]) rfl ?_
  unfold f_X8_water at h
  refine wg_iload_n X 1 dX8_water_0 rfl rfl ?_
  obtain ⟨r2, h1, h⟩ := bd_some h
  refine wg_callSi (As := [.int p1]) (rest := []) X (c_X8_isRoom l E ad S C M p1  h1) T_yX8_isRoom k_535 dX8_water_1 rfl rfl (Nat.le_of_ble_eq_true rfl) ⟨Nat.le_of_ble_eq_true rfl, Nat.le_of_ble_eq_true rfl⟩ ⟨Nat.zero_le _, Nat.zero_le _⟩ ?_
  refine wg_if_eq X 14 dX8_water_4 (by decide) (fun c3 => ?_) (fun c3 => ?_)
  · have h := if_t c3 h
    refine wg_bipush (v := -2) X dX8_water_14 (by decide) ?_
    exact wg_iret X ⟨(Prod.mk.inj (sm_inj h)).1, (Prod.mk.inj (sm_inj h)).2, rfl⟩ hr dX8_water_16
  · have h := if_f c3 h
    refine wg_iload_n X 2 dX8_water_7 rfl rfl ?_
    obtain ⟨r5, h4, h⟩ := bd_some h
    refine wg_callSi (As := [.int p2]) (rest := []) X (c_X8_isDay l E ad S C M p2  h4) T_yX8_isDay k_517 dX8_water_8 rfl rfl (Nat.le_of_ble_eq_true rfl) ⟨Nat.le_of_ble_eq_true rfl, Nat.le_of_ble_eq_true rfl⟩ ⟨Nat.zero_le _, Nat.zero_le _⟩ ?_
    refine wg_if_ne X 17 dX8_water_11 (by decide) (fun c6 => ?_) (fun c6 => ?_)
    · have h := if_f c6 h
      refine wg_aload_n X 0 dX8_water_17 rfl rfl ?_
      refine wg_iload_n X 1 dX8_water_18 rfl rfl ?_
      refine wg_aload_n X 0 dX8_water_19 rfl rfl ?_
      refine wg_getR (b := 1) X cl8 (SCi hS 0 8 rfl) 0 (by decide) dX8_water_20 k_472 rfl (SCr hS 0 0 1 rfl) ?_
      refine wg_getR (b := 2) X cl0 (SCi hS 1 0 rfl) 0 (by decide) dX8_water_23 k_141 rfl (SCr hS 1 0 2 rfl) ?_
      obtain ⟨r8, C9, h7, h⟩ := bd2_some h
      refine wg_callVi (As := [.int p1, .ref (ad 2)]) (rest := []) X (c_X8_flood l E ad S hS N C M p1 2 32 ⟨(SCi hS 2 10 rfl), (SCl hS 2 32 rfl)⟩ h7) T_yX8_flood k_766 cl8 (SCi hS 0 8 rfl) dX8_water_26 rfl rfl (Nat.le_of_ble_eq_true rfl) ⟨Nat.le_of_ble_eq_true rfl, Nat.le_of_ble_eq_true rfl⟩ ⟨Nat.zero_le _, Nat.zero_le _⟩ ?_
      refine wg_pop X dX8_water_29 rfl ?_
      refine wg_aload_n X 0 dX8_water_30 rfl rfl ?_
      refine wg_getR (b := 41) X cl8 (SCi hS 0 8 rfl) 9 (by decide) dX8_water_31 k_481 rfl (SCr hS 0 9 41 rfl) ?_
      refine wg_iload_n X 2 dX8_water_34 rfl rfl ?_
      obtain ⟨z10, h⟩ := ck_some h
      refine wg_iald X (SCi hS 41 10 rfl) (SCl hS 41 32 rfl) z10 dX8_water_35 ?_
      exact wg_iret X ⟨(Prod.mk.inj (sm_inj h)).1, (Prod.mk.inj (sm_inj h)).2, rfl⟩ hr dX8_water_36
    · have h := if_t c6 h
      refine wg_bipush (v := -2) X dX8_water_14 (by decide) ?_
      exact wg_iret X ⟨(Prod.mk.inj (sm_inj h)).1, (Prod.mk.inj (sm_inj h)).2, rfl⟩ hr dX8_water_16
-- WindowsGive.wettest(II)I (('c', 0), 'i', 'i')
def f_X8_wettest_l45 (N : Nat) (S : wg_Sh) (C : wg_C)   (x4 : Int32) (x5 : Int32) : Option ((Int32 × Int32) ⊕ (Int32 × Int32)) :=
  if (32 : Int32) ≤ x5 then (
    some (.inr (x4, x5)))
  else (
    ck (inb x5 32) <|
    ck (inb x4 32) <|
    if (C 41 x5.toNatClampNeg) ≤ (C 41 x4.toNatClampNeg) then (
      lt_ (x5 + (1 : Int32)) fun v14 =>
      some (.inl (x4, v14)))
    else (
      lt_ (x5 + (1 : Int32)) fun v16 =>
      some (.inl (x5, v16))))
def f_X8_wettest (N : Nat) (S : wg_Sh) (C : wg_C) (p1 : Int32) (p2 : Int32) : Option (Int32 × wg_C) :=
  bd (f_X8_isRoom p1) fun r2 =>
  if r2 = 0 then (
    some ((-2 : Int32), C))
  else (
    if p2 < 0 then (
      some ((-2 : Int32), C))
    else (
      if p2 ≤ (1 : Int32) then (
        bd2 (f_X8_flood N S C p1 2 32) fun r7 C8 =>
        if p2 = (1 : Int32) then (
          some (r7, C8))
        else (
          bd2 (lp (fun o => f_X8_wettest_l45 N S C8   o.1 o.2) N ((0 : Int32), (1 : Int32))) fun v18 v19 =>
          some (v18, C8)))
      else (
        some ((-2 : Int32), C))))
abbrev G_X8_wettest (p : Program) (l : Launch) (e : Env) (s : State) (m : MethodId) (args : Array Value) (below : List Frame) (meth : Method) (c : Code) (E : wg_Ev) (ad : Nat → Nat) (S : wg_Sh) (r0 : Int32) (C0 : wg_C) (M0 : wg_M) (pc : Nat) (C : wg_C) (M : wg_M) (lv : List (Nat × Value)) (st : List Value) : Prop := wg_G p l e (wg_Rm 5 123) s m args below meth c (MQ below (wg_Qi E ad S r0 C0 M0) args s 0 0 (wg_A E)) 6 E ad S 0 0 pc C M lv st
set_option maxHeartbeats 4000000 in
set_option maxRecDepth 100000 in
theorem L_X8_wettest_l45 {p : Program} {l : Launch} {e : Env} {s : State} {m : MethodId} {args : Array Value} {below : List Frame} {meth : Method} {c : Code} {E : wg_Ev} {ad : Nat → Nat} {S : wg_Sh} (X : wg_X p s m args meth c cX8_wettest 6 RX8 E) (hr : meth.sig.returnType = (some .int)) (hS : wg_SC S) (r0 : Int32) (D0 : wg_C) (M : wg_M) (N : Nat)  (C : wg_C)    : ∀ (n : Nat) (x4 : Int32) (x5 : Int32) (o : (Int32 × Int32)), lp (fun o => f_X8_wettest_l45 N S C   o.1 o.2) n (x4, x5) = some o → (∀ (y4 : Int32) (y5 : Int32), o = (y4, y5) → G_X8_wettest p l e s m args below meth c E ad S r0 D0 M 79 C M [(0, .ref (ad 0)), (4, .int y4), (5, .int y5)] []) → G_X8_wettest p l e s m args below meth c E ad S r0 D0 M 45 C M [(0, .ref (ad 0)), (4, .int x4), (5, .int x5)] [] := by
  intro n
  induction n with
  | zero => exact fun _ _ o h => (lp_zero h).elim
  | succ n ih =>
    intro x4 x5 o h K
    obtain ⟨o1, hb, h2⟩ := lp_some h
    replace hb : f_X8_wettest_l45 N S C   x4 x5 = some o1 := hb
    clear h
    have Kc : ∀ (y4 : Int32) (y5 : Int32), o1 = Sum.inl (y4, y5) → G_X8_wettest p l e s m args below meth c E ad S r0 D0 M 45 C M [(0, .ref (ad 0)), (4, .int y4), (5, .int y5)] [] := fun y4 y5 e1 => by
      subst e1
      exact ih y4 y5 o h2 K
    have Ke : ∀ (y4 : Int32) (y5 : Int32), o1 = Sum.inr ((y4, y5)) → G_X8_wettest p l e s m args below meth c E ad S r0 D0 M 79 C M [(0, .ref (ad 0)), (4, .int y4), (5, .int y5)] [] := fun y4 y5 e1 => by
      subst e1
      exact K y4 y5 (sm_inj (α := (Int32 × Int32)) h2).symm
    clear ih K h2
    unfold f_X8_wettest_l45 at hb
    have h := hb
    clear hb
    refine wg_iload X 2 dX8_wettest_45 rfl ?_
    refine wg_bipush (v := 32) X dX8_wettest_47 (by decide) ?_
    refine wg_icmp_ge X 79 dX8_wettest_49 (by decide) (fun c10 => ?_) (fun c10 => ?_)
    · have h := if_t c10 h
      exact Ke x4 x5 (sm_inj h).symm
    · have h := if_f c10 h
      refine wg_aload_n X 0 dX8_wettest_52 rfl rfl ?_
      refine wg_getR (b := 41) X cl8 (SCi hS 0 8 rfl) 9 (by decide) dX8_wettest_53 k_481 rfl (SCr hS 0 9 41 rfl) ?_
      refine wg_iload X 2 dX8_wettest_56 rfl ?_
      obtain ⟨z11, h⟩ := ck_some h
      refine wg_iald X (SCi hS 41 10 rfl) (SCl hS 41 32 rfl) z11 dX8_wettest_58 ?_
      refine wg_aload_n X 0 dX8_wettest_59 rfl rfl ?_
      refine wg_getR (b := 41) X cl8 (SCi hS 0 8 rfl) 9 (by decide) dX8_wettest_60 k_481 rfl (SCr hS 0 9 41 rfl) ?_
      refine wg_iload X 1 dX8_wettest_63 rfl ?_
      obtain ⟨z12, h⟩ := ck_some h
      refine wg_iald X (SCi hS 41 10 rfl) (SCl hS 41 32 rfl) z12 dX8_wettest_65 ?_
      refine wg_icmp_le X 73 dX8_wettest_66 (by decide) (fun c13 => ?_) (fun c13 => ?_)
      · have h := if_t c13 h
        obtain ⟨v14, e15, h⟩ := lt_some h
        refine wg_iinc (lv' := [(5, .int v14), (0, .ref (ad 0)), (4, .int x4)]) X 2 dX8_wettest_73 rfl e15 (by decide) rfl ?_
        refine wg_goto X 45 dX8_wettest_76 (by decide) ?_
        refine wg_pick [1, 2, 0] (lv' := [(0, .ref (ad 0)), (4, .int x4), (5, .int v14)]) rfl ?_
        exact Kc x4 v14 (sm_inj h).symm
      · have h := if_f c13 h
        refine wg_iload X 2 dX8_wettest_69 rfl ?_
        refine wg_istore (lv' := [(4, .int x5), (0, .ref (ad 0)), (5, .int x5)]) X dX8_wettest_71 rfl (by decide) rfl ?_
        obtain ⟨v16, e17, h⟩ := lt_some h
        refine wg_iinc (lv' := [(5, .int v16), (4, .int x5), (0, .ref (ad 0))]) X 2 dX8_wettest_73 rfl e17 (by decide) rfl ?_
        refine wg_goto X 45 dX8_wettest_76 (by decide) ?_
        refine wg_pick [2, 1, 0] (lv' := [(0, .ref (ad 0)), (4, .int x5), (5, .int v16)]) rfl ?_
        exact Kc x5 v16 (sm_inj h).symm
set_option maxHeartbeats 4000000 in
set_option maxRecDepth 100000 in
theorem c_X8_wettest (l : Launch) (E : wg_Ev) (ad : Nat → Nat) (S : wg_Sh) (hS : wg_SC S) (N : Nat) (C : wg_C) (M : wg_M) (p1 : Int32) (p2 : Int32)  {r0 : Int32} {D0 : wg_C} (h : f_X8_wettest N S C p1 p2 = some (r0, D0)) : wg_Ci l yX8_wettest cX8_wettest 6 (some .int) 5 123 E ad S C M [.ref (ad 0), .int p1, .int p2] r0 D0 M := by
  refine wg_start (own := RX8) (by decide +kernel) rfl (Nat.le_of_ble_eq_true rfl) ?_
  intro p e s m below meth c X hr hnm
  refine wg_lv (lv' := [(0, .ref (ad 0)), (1, .int p1), (2, .int p2)]) rfl ?_
  unfold f_X8_wettest at h
  refine wg_iload_n X 1 dX8_wettest_0 rfl rfl ?_
  obtain ⟨r2, h1, h⟩ := bd_some h
  refine wg_callSi (As := [.int p1]) (rest := []) X (c_X8_isRoom l E ad S C M p1  h1) T_yX8_isRoom k_535 dX8_wettest_1 rfl rfl (Nat.le_of_ble_eq_true rfl) ⟨Nat.le_of_ble_eq_true rfl, Nat.le_of_ble_eq_true rfl⟩ ⟨Nat.zero_le _, Nat.zero_le _⟩ ?_
  refine wg_if_eq X 16 dX8_wettest_4 (by decide) (fun c3 => ?_) (fun c3 => ?_)
  · have h := if_t c3 h
    refine wg_bipush (v := -2) X dX8_wettest_16 (by decide) ?_
    exact wg_iret X ⟨(Prod.mk.inj (sm_inj h)).1, (Prod.mk.inj (sm_inj h)).2, rfl⟩ hr dX8_wettest_18
  · have h := if_f c3 h
    refine wg_iload_n X 2 dX8_wettest_7 rfl rfl ?_
    refine wg_if_lt X 16 dX8_wettest_8 (by decide) (fun c4 => ?_) (fun c4 => ?_)
    · have h := if_t c4 h
      refine wg_bipush (v := -2) X dX8_wettest_16 (by decide) ?_
      exact wg_iret X ⟨(Prod.mk.inj (sm_inj h)).1, (Prod.mk.inj (sm_inj h)).2, rfl⟩ hr dX8_wettest_18
    · have h := if_f c4 h
      refine wg_iload_n X 2 dX8_wettest_11 rfl rfl ?_
      refine wg_iconst (v := 1) X dX8_wettest_12 (by decide) ?_
      refine wg_icmp_le X 19 dX8_wettest_13 (by decide) (fun c5 => ?_) (fun c5 => ?_)
      · have h := if_t c5 h
        refine wg_aload_n X 0 dX8_wettest_19 rfl rfl ?_
        refine wg_iload_n X 1 dX8_wettest_20 rfl rfl ?_
        refine wg_aload_n X 0 dX8_wettest_21 rfl rfl ?_
        refine wg_getR (b := 1) X cl8 (SCi hS 0 8 rfl) 0 (by decide) dX8_wettest_22 k_472 rfl (SCr hS 0 0 1 rfl) ?_
        refine wg_getR (b := 2) X cl0 (SCi hS 1 0 rfl) 0 (by decide) dX8_wettest_25 k_141 rfl (SCr hS 1 0 2 rfl) ?_
        obtain ⟨r7, C8, h6, h⟩ := bd2_some h
        refine wg_callVi (As := [.int p1, .ref (ad 2)]) (rest := []) X (c_X8_flood l E ad S hS N C M p1 2 32 ⟨(SCi hS 2 10 rfl), (SCl hS 2 32 rfl)⟩ h6) T_yX8_flood k_766 cl8 (SCi hS 0 8 rfl) dX8_wettest_28 rfl rfl (Nat.le_of_ble_eq_true rfl) ⟨Nat.le_of_ble_eq_true rfl, Nat.le_of_ble_eq_true rfl⟩ ⟨Nat.zero_le _, Nat.zero_le _⟩ ?_
        refine wg_istore_n (lv' := [(3, .int r7), (0, .ref (ad 0)), (1, .int p1), (2, .int p2)]) X dX8_wettest_31 rfl rfl (by decide) rfl ?_
        refine wg_iload_n X 3 dX8_wettest_32 rfl rfl ?_
        refine wg_iconst (v := 1) X dX8_wettest_33 (by decide) ?_
        refine wg_icmp_ne X 39 dX8_wettest_34 (by decide) (fun c9 => ?_) (fun c9 => ?_)
        · have h := if_f c9 h
          refine wg_iconst (v := 0) X dX8_wettest_39 (by decide) ?_
          refine wg_istore (lv' := [(4, .int (0 : Int32)), (3, .int r7), (0, .ref (ad 0)), (1, .int p1), (2, .int p2)]) X dX8_wettest_40 rfl (by decide) rfl ?_
          refine wg_iconst (v := 1) X dX8_wettest_42 (by decide) ?_
          refine wg_istore (lv' := [(5, .int (1 : Int32)), (4, .int (0 : Int32)), (3, .int r7), (0, .ref (ad 0)), (1, .int p1), (2, .int p2)]) X dX8_wettest_43 rfl (by decide) rfl ?_
          obtain ⟨o20, h21, h⟩ := bd2_o h
          refine wg_pick [3, 1, 0] (lv' := [(0, .ref (ad 0)), (4, .int (0 : Int32)), (5, .int (1 : Int32))]) rfl ?_
          refine L_X8_wettest_l45 X hr hS r0 D0 M N  C8    N (0 : Int32) (1 : Int32) o20 h21 (fun v18 v19 e23 => ?_)
          · subst o20
            replace h := bd2_in h
            refine wg_iload X 1 dX8_wettest_79 rfl ?_
            exact wg_iret X ⟨(Prod.mk.inj (sm_inj h)).1, (Prod.mk.inj (sm_inj h)).2, rfl⟩ hr dX8_wettest_81
        · have h := if_t c9 h
          refine wg_iload_n X 0 dX8_wettest_37 rfl rfl ?_
          exact wg_iret X ⟨(Prod.mk.inj (sm_inj h)).1, (Prod.mk.inj (sm_inj h)).2, rfl⟩ hr dX8_wettest_38
      · have h := if_f c5 h
        refine wg_bipush (v := -2) X dX8_wettest_16 (by decide) ?_
        exact wg_iret X ⟨(Prod.mk.inj (sm_inj h)).1, (Prod.mk.inj (sm_inj h)).2, rfl⟩ hr dX8_wettest_18
-- WindowsGive.fillPrices(I)V (('c', 0), 'i')
def f_X8_fillPrices_j41l2 (N : Nat) (S : wg_Sh) (C : wg_C)  (x1 : Int32) (x2 : Int32) (s0 : Int32) : Option ((wg_C × Int32) ⊕ (wg_C × Int32)) :=
  if s0 = 0 then (
    ck (inb x2 8) <|
    lt_ (wg_up C 43 x2.toNatClampNeg (-1 : Int32)) fun C5 =>
    lt_ (x2 + (1 : Int32)) fun v7 =>
    some (.inl (C5, v7)))
  else (
    ck (inb x2 8) <|
    bd2 (f_X3_worth N S C (C 1 3) (2 : Int32) (4 + x2.toNatClampNeg) x1 2 32) fun r11 C12 =>
    ck (inb x2 8) <|
    lt_ (wg_up C12 43 x2.toNatClampNeg r11) fun C14 =>
    lt_ (x2 + (1 : Int32)) fun v16 =>
    some (.inl (C14, v16)))
def f_X8_fillPrices_l2 (N : Nat) (S : wg_Sh)  (x1 : Int32) (C : wg_C) (x2 : Int32) : Option ((wg_C × Int32) ⊕ (wg_C × Int32)) :=
  if (8 : Int32) ≤ x2 then (
    some (.inr (C, x2)))
  else (
    if (C 1 2) ≤ x2 then (
      f_X8_fillPrices_j41l2 N S C  x1 x2 (0 : Int32))
    else (
      ck (inb x2 8) <|
      bd (f_X1_passes C (4 + x2.toNatClampNeg) x1 (0 : Int32)) fun r20 =>
      if r20 = 0 then (
        f_X8_fillPrices_j41l2 N S C  x1 x2 (0 : Int32))
      else (
        f_X8_fillPrices_j41l2 N S C  x1 x2 (1 : Int32))))
def f_X8_fillPrices (N : Nat) (S : wg_Sh) (C : wg_C) (p1 : Int32) : Option wg_C :=
  bd2 (lp (fun o => f_X8_fillPrices_l2 N S  p1 o.1 o.2) N (C, (0 : Int32))) fun C22 v23 =>
  some C22
abbrev G_X8_fillPrices (p : Program) (l : Launch) (e : Env) (s : State) (m : MethodId) (args : Array Value) (below : List Frame) (meth : Method) (c : Code) (E : wg_Ev) (ad : Nat → Nat) (S : wg_Sh) (C0 : wg_C) (M0 : wg_M) (pc : Nat) (C : wg_C) (M : wg_M) (lv : List (Nat × Value)) (st : List Value) : Prop := wg_G p l e (wg_Rm 4 96) s m args below meth c (MQ below (wg_Qv E ad S C0 M0) args s 0 0 (wg_A E)) 4 E ad S 0 0 pc C M lv st
set_option maxHeartbeats 4000000 in
set_option maxRecDepth 100000 in
theorem J_X8_fillPrices_j41l2 {p : Program} {l : Launch} {e : Env} {s : State} {m : MethodId} {args : Array Value} {below : List Frame} {meth : Method} {c : Code} {E : wg_Ev} {ad : Nat → Nat} {S : wg_Sh} (X : wg_X p s m args meth c cX8_fillPrices 4 RX8 E) (hr : meth.sig.returnType = none) (hS : wg_SC S) (D0 : wg_C) (M : wg_M) (N : Nat)  (C : wg_C)  (x1 : Int32) (x2 : Int32) (s0 : Int32)  (y : ((wg_C × Int32) ⊕ (wg_C × Int32))) (Kc : ∀ (Dy : wg_C) (y2 : Int32), y = Sum.inl (Dy, y2) → G_X8_fillPrices p l e s m args below meth c E ad S D0 M 2 Dy M [(0, .ref (ad 0)), (1, .int x1), (2, .int y2)] []) (Ke : ∀ (Dy : wg_C) (y2 : Int32), y = Sum.inr ((Dy, y2)) → G_X8_fillPrices p l e s m args below meth c E ad S D0 M 94 Dy M [(0, .ref (ad 0)), (1, .int x1), (2, .int y2)] []) (h : f_X8_fillPrices_j41l2 N S C  x1 x2 s0 = some y) : G_X8_fillPrices p l e s m args below meth c E ad S D0 M 41 C M [(0, .ref (ad 0)), (1, .int x1), (2, .int x2)] [.int s0] := by
  unfold f_X8_fillPrices_j41l2 at h
  refine wg_istore_n (lv' := [(3, .int s0), (0, .ref (ad 0)), (1, .int x1), (2, .int x2)]) X dX8_fillPrices_41 rfl rfl (by decide) rfl ?_
  refine wg_aload_n X 1 dX8_fillPrices_42 rfl rfl ?_
  refine wg_getR (b := 43) X cl8 (SCi hS 0 8 rfl) 11 (by decide) dX8_fillPrices_43 k_483 rfl (SCr hS 0 11 43 rfl) ?_
  refine wg_iload_n X 3 dX8_fillPrices_46 rfl rfl ?_
  refine wg_iload_n X 0 dX8_fillPrices_47 rfl rfl ?_
  refine wg_if_eq X 86 dX8_fillPrices_48 (by decide) (fun c3 => ?_) (fun c3 => ?_)
  · have h := if_t c3 h
    refine wg_iconst (v := -1) X dX8_fillPrices_86 (by decide) ?_
    obtain ⟨z4, h⟩ := ck_some h
    obtain ⟨C5, e6, h⟩ := lt_some h
    refine wg_iaste X (SCi hS 43 10 rfl) (SCl hS 43 8 rfl) z4 dX8_fillPrices_87 e6 ?_
    obtain ⟨v7, e8, h⟩ := lt_some h
    refine wg_iinc (lv' := [(2, .int v7), (3, .int s0), (0, .ref (ad 0)), (1, .int x1)]) X 3 dX8_fillPrices_88 rfl e8 (by decide) rfl ?_
    refine wg_goto X 2 dX8_fillPrices_91 (by decide) ?_
    refine wg_pick [2, 3, 0] (lv' := [(0, .ref (ad 0)), (1, .int x1), (2, .int v7)]) rfl ?_
    exact Kc C5 v7 (sm_inj h).symm
  · have h := if_f c3 h
    refine wg_aload_n X 1 dX8_fillPrices_51 rfl rfl ?_
    refine wg_getR (b := 31) X cl8 (SCi hS 0 8 rfl) 5 (by decide) dX8_fillPrices_52 k_477 rfl (SCr hS 0 5 31 rfl) ?_
    refine wg_aload_n X 1 dX8_fillPrices_55 rfl rfl ?_
    refine wg_getR (b := 1) X cl8 (SCi hS 0 8 rfl) 0 (by decide) dX8_fillPrices_56 k_472 rfl (SCr hS 0 0 1 rfl) ?_
    refine wg_getC X cl0 (SCi hS 1 0 rfl) 3 (by decide) dX8_fillPrices_59 k_151 rfl ?_
    refine wg_iconst (v := 2) X dX8_fillPrices_62 (by decide) ?_
    refine wg_aload_n X 1 dX8_fillPrices_63 rfl rfl ?_
    refine wg_getR (b := 1) X cl8 (SCi hS 0 8 rfl) 0 (by decide) dX8_fillPrices_64 k_472 rfl (SCr hS 0 0 1 rfl) ?_
    refine wg_getR (b := 3) X cl0 (SCi hS 1 0 rfl) 1 (by decide) dX8_fillPrices_67 k_144 rfl (SCr hS 1 1 3 rfl) ?_
    refine wg_iload_n X 3 dX8_fillPrices_70 rfl rfl ?_
    obtain ⟨z9, h⟩ := ck_some h
    refine wg_aalS13 (b := 4 + x2.toNatClampNeg) X (SCi hS 3 13 rfl) (SCl hS 3 8 rfl) z9 (SCp hS (inb_lt z9)).1 dX8_fillPrices_71 ?_
    refine wg_iload_n X 2 dX8_fillPrices_72 rfl rfl ?_
    refine wg_aload_n X 1 dX8_fillPrices_73 rfl rfl ?_
    refine wg_getR (b := 1) X cl8 (SCi hS 0 8 rfl) 0 (by decide) dX8_fillPrices_74 k_472 rfl (SCr hS 0 0 1 rfl) ?_
    refine wg_getR (b := 2) X cl0 (SCi hS 1 0 rfl) 0 (by decide) dX8_fillPrices_77 k_141 rfl (SCr hS 1 0 2 rfl) ?_
    obtain ⟨r11, C12, h10, h⟩ := bd2_some h
    refine wg_callVi (As := [.int (C 1 3), .int (2 : Int32), .ref (ad (4 + x2.toNatClampNeg)), .int x1, .ref (ad 2)]) (rest := [.int x2, .ref (ad 43)]) X (c_X3_worth l E ad S hS N C M (C 1 3) (2 : Int32) (4 + x2.toNatClampNeg) x1 2 32 ((SCp hS (inb_lt z9)).2.1) ⟨(SCi hS 2 10 rfl), (SCl hS 2 32 rfl)⟩ h10) T_yX3_worth k_772 cl3 (SCi hS 31 3 rfl) dX8_fillPrices_80 rfl rfl (Nat.le_of_ble_eq_true rfl) ⟨Nat.le_of_ble_eq_true rfl, Nat.le_of_ble_eq_true rfl⟩ ⟨Nat.zero_le _, Nat.zero_le _⟩ ?_
    refine wg_goto X 87 dX8_fillPrices_83 (by decide) ?_
    obtain ⟨z13, h⟩ := ck_some h
    obtain ⟨C14, e15, h⟩ := lt_some h
    refine wg_iaste X (SCi hS 43 10 rfl) (SCl hS 43 8 rfl) z13 dX8_fillPrices_87 e15 ?_
    obtain ⟨v16, e17, h⟩ := lt_some h
    refine wg_iinc (lv' := [(2, .int v16), (3, .int s0), (0, .ref (ad 0)), (1, .int x1)]) X 3 dX8_fillPrices_88 rfl e17 (by decide) rfl ?_
    refine wg_goto X 2 dX8_fillPrices_91 (by decide) ?_
    refine wg_pick [2, 3, 0] (lv' := [(0, .ref (ad 0)), (1, .int x1), (2, .int v16)]) rfl ?_
    exact Kc C14 v16 (sm_inj h).symm
set_option maxHeartbeats 4000000 in
set_option maxRecDepth 100000 in
theorem L_X8_fillPrices_l2 {p : Program} {l : Launch} {e : Env} {s : State} {m : MethodId} {args : Array Value} {below : List Frame} {meth : Method} {c : Code} {E : wg_Ev} {ad : Nat → Nat} {S : wg_Sh} (X : wg_X p s m args meth c cX8_fillPrices 4 RX8 E) (hr : meth.sig.returnType = none) (hS : wg_SC S) (D0 : wg_C) (M : wg_M) (N : Nat)   (x1 : Int32)  : ∀ (n : Nat) (C : wg_C) (x2 : Int32) (o : (wg_C × Int32)), lp (fun o => f_X8_fillPrices_l2 N S  x1 o.1 o.2) n (C, x2) = some o → (∀ (Dy : wg_C) (y2 : Int32), o = (Dy, y2) → G_X8_fillPrices p l e s m args below meth c E ad S D0 M 94 Dy M [(0, .ref (ad 0)), (1, .int x1), (2, .int y2)] []) → G_X8_fillPrices p l e s m args below meth c E ad S D0 M 2 C M [(0, .ref (ad 0)), (1, .int x1), (2, .int x2)] [] := by
  intro n
  induction n with
  | zero => exact fun _ _ o h => (lp_zero h).elim
  | succ n ih =>
    intro C x2 o h K
    obtain ⟨o1, hb, h2⟩ := lp_some h
    replace hb : f_X8_fillPrices_l2 N S  x1 C x2 = some o1 := hb
    clear h
    have Kc : ∀ (Dy : wg_C) (y2 : Int32), o1 = Sum.inl (Dy, y2) → G_X8_fillPrices p l e s m args below meth c E ad S D0 M 2 Dy M [(0, .ref (ad 0)), (1, .int x1), (2, .int y2)] [] := fun Dy y2 e1 => by
      subst e1
      exact ih Dy y2 o h2 K
    have Ke : ∀ (Dy : wg_C) (y2 : Int32), o1 = Sum.inr ((Dy, y2)) → G_X8_fillPrices p l e s m args below meth c E ad S D0 M 94 Dy M [(0, .ref (ad 0)), (1, .int x1), (2, .int y2)] [] := fun Dy y2 e1 => by
      subst e1
      exact K Dy y2 (sm_inj (α := (wg_C × Int32)) h2).symm
    clear ih K h2
    unfold f_X8_fillPrices_l2 at hb
    have h := hb
    clear hb
    refine wg_iload_n X 2 dX8_fillPrices_2 rfl rfl ?_
    refine wg_bipush (v := 8) X dX8_fillPrices_3 (by decide) ?_
    refine wg_icmp_ge X 94 dX8_fillPrices_5 (by decide) (fun c1 => ?_) (fun c1 => ?_)
    · have h := if_t c1 h
      exact Ke C x2 (sm_inj h).symm
    · have h := if_f c1 h
      refine wg_iload_n X 2 dX8_fillPrices_8 rfl rfl ?_
      refine wg_aload_n X 0 dX8_fillPrices_9 rfl rfl ?_
      refine wg_getR (b := 1) X cl8 (SCi hS 0 8 rfl) 0 (by decide) dX8_fillPrices_10 k_472 rfl (SCr hS 0 0 1 rfl) ?_
      refine wg_getC X cl0 (SCi hS 1 0 rfl) 2 (by decide) dX8_fillPrices_13 k_147 rfl ?_
      refine wg_icmp_ge X 40 dX8_fillPrices_16 (by decide) (fun c2 => ?_) (fun c2 => ?_)
      · have h := if_t c2 h
        refine wg_iconst (v := 0) X dX8_fillPrices_40 (by decide) ?_
        exact J_X8_fillPrices_j41l2 X hr hS D0 M N  C  x1 x2 (0 : Int32)  _ Kc Ke h
      · have h := if_f c2 h
        refine wg_aload_n X 0 dX8_fillPrices_19 rfl rfl ?_
        refine wg_getR (b := 1) X cl8 (SCi hS 0 8 rfl) 0 (by decide) dX8_fillPrices_20 k_472 rfl (SCr hS 0 0 1 rfl) ?_
        refine wg_getR (b := 3) X cl0 (SCi hS 1 0 rfl) 1 (by decide) dX8_fillPrices_23 k_144 rfl (SCr hS 1 1 3 rfl) ?_
        refine wg_iload_n X 2 dX8_fillPrices_26 rfl rfl ?_
        obtain ⟨z18, h⟩ := ck_some h
        refine wg_aalS13 (b := 4 + x2.toNatClampNeg) X (SCi hS 3 13 rfl) (SCl hS 3 8 rfl) z18 (SCp hS (inb_lt z18)).1 dX8_fillPrices_27 ?_
        refine wg_iload_n X 1 dX8_fillPrices_28 rfl rfl ?_
        refine wg_iconst (v := 0) X dX8_fillPrices_29 (by decide) ?_
        obtain ⟨r20, h19, h⟩ := bd_some h
        refine wg_callVi (As := [.int x1, .int (0 : Int32)]) (rest := []) X (c_X1_passes l E ad S hS C M (4 + x2.toNatClampNeg) x1 (0 : Int32) ((SCp hS (inb_lt z18)).2.1) h19) T_yX1_passes k_561 cl1 ((SCp hS (inb_lt z18)).2.1) dX8_fillPrices_30 rfl rfl (Nat.le_of_ble_eq_true rfl) ⟨Nat.le_of_ble_eq_true rfl, Nat.le_of_ble_eq_true rfl⟩ ⟨Nat.zero_le _, Nat.zero_le _⟩ ?_
        refine wg_if_eq X 40 dX8_fillPrices_33 (by decide) (fun c21 => ?_) (fun c21 => ?_)
        · have h := if_t c21 h
          refine wg_iconst (v := 0) X dX8_fillPrices_40 (by decide) ?_
          exact J_X8_fillPrices_j41l2 X hr hS D0 M N  C  x1 x2 (0 : Int32)  _ Kc Ke h
        · have h := if_f c21 h
          refine wg_iconst (v := 1) X dX8_fillPrices_36 (by decide) ?_
          refine wg_goto X 41 dX8_fillPrices_37 (by decide) ?_
          exact J_X8_fillPrices_j41l2 X hr hS D0 M N  C  x1 x2 (1 : Int32)  _ Kc Ke h
set_option maxHeartbeats 4000000 in
set_option maxRecDepth 100000 in
theorem c_X8_fillPrices (l : Launch) (E : wg_Ev) (ad : Nat → Nat) (S : wg_Sh) (hS : wg_SC S) (N : Nat) (C : wg_C) (M : wg_M) (p1 : Int32)  {D0 : wg_C} (h : f_X8_fillPrices N S C p1 = some D0) : wg_Cv l yX8_fillPrices cX8_fillPrices 4 none 4 96 E ad S C M [.ref (ad 0), .int p1] D0 M := by
  refine wg_start (own := RX8) (by decide +kernel) rfl (Nat.le_of_ble_eq_true rfl) ?_
  intro p e s m below meth c X hr hnm
  refine wg_lv (lv' := [(0, .ref (ad 0)), (1, .int p1)]) rfl ?_
  unfold f_X8_fillPrices at h
  refine wg_iconst (v := 0) X dX8_fillPrices_0 (by decide) ?_
  refine wg_istore_n (lv' := [(2, .int (0 : Int32)), (0, .ref (ad 0)), (1, .int p1)]) X dX8_fillPrices_1 rfl rfl (by decide) rfl ?_
  obtain ⟨o24, h25, h⟩ := bd2_o h
  refine wg_pick [1, 2, 0] (lv' := [(0, .ref (ad 0)), (1, .int p1), (2, .int (0 : Int32))]) rfl ?_
  refine L_X8_fillPrices_l2 X hr hS D0 M N   p1  N C (0 : Int32) o24 h25 (fun C22 v23 e27 => ?_)
  · subst o24
    replace h := bd2_in h
    exact wg_vret X ⟨(sm_inj h), rfl⟩ hr dX8_fillPrices_94
-- WindowsGive.holds(II)Z ('i', 'i')
def f_X8_holds (p0 : Int32) (p1 : Int32) : Option Int32 :=
  if ((p0 >>> (((7 : Int32) - p1) &&& 31)) &&& (1 : Int32)) = (1 : Int32) then (
    some (1 : Int32))
  else (
    some (0 : Int32))
set_option maxHeartbeats 4000000 in
set_option maxRecDepth 100000 in
theorem c_X8_holds (l : Launch) (E : wg_Ev) (ad : Nat → Nat) (S : wg_Sh) (C : wg_C) (M : wg_M) (p0 : Int32) (p1 : Int32)  {r0 : Int32} (h : f_X8_holds p0 p1 = some r0) : wg_Ci l yX8_holds cX8_holds 2 (some .boolean) 0 0 E ad S C M [.int p0, .int p1] r0 C M := by
  refine wg_start (own := RX8) (by decide +kernel) rfl (Nat.le_of_ble_eq_true rfl) ?_
  intro p e s m below meth c X hr hnm
  refine wg_lv (lv' := [(0, .int p0), (1, .int p1)]) rfl ?_
  unfold f_X8_holds at h
  refine wg_iload_n X 0 dX8_holds_0 rfl rfl ?_
  refine wg_bipush (v := 7) X dX8_holds_1 (by decide) ?_
  refine wg_iload_n X 1 dX8_holds_3 rfl rfl ?_
  refine wg_isub X dX8_holds_4 ?_
  refine wg_ishr X dX8_holds_5 ?_
  refine wg_iconst (v := 1) X dX8_holds_6 (by decide) ?_
  refine wg_iand X dX8_holds_7 ?_
  refine wg_iconst (v := 1) X dX8_holds_8 (by decide) ?_
  refine wg_icmp_ne X 16 dX8_holds_9 (by decide) (fun c1 => ?_) (fun c1 => ?_)
  · have h := if_f c1 h
    refine wg_iconst (v := 0) X dX8_holds_16 (by decide) ?_
    exact wg_zret X ⟨(sm_inj h), rfl, rfl⟩ hr (by decide) dX8_holds_17
  · have h := if_t c1 h
    refine wg_iconst (v := 1) X dX8_holds_12 (by decide) ?_
    refine wg_goto X 17 dX8_holds_13 (by decide) ?_
    exact wg_zret X ⟨(sm_inj h), rfl, rfl⟩ hr (by decide) dX8_holds_17
-- WindowsGive.priceTogether(I)I (('c', 0), 'i')
def f_X8_priceTogether_l4 (N : Nat) (C : wg_C)  (x1 : Int32) (x2 : Int32) (x3 : Int32) : Option ((Int32 × Int32) ⊕ ((Int32 × Int32) ⊕ Int32)) :=
  if (8 : Int32) ≤ x3 then (
    some (.inr (.inl (x2, x3))))
  else (
    bd (f_X8_holds x1 x3) fun r3 =>
    if r3 = 0 then (
      lt_ (x3 + (1 : Int32)) fun v5 =>
      some (.inl (x2, v5)))
    else (
      ck (inb x3 8) <|
      if (C 43 x3.toNatClampNeg) = (-1 : Int32) then (
        some (.inr (.inr (-1 : Int32))))
      else (
        ck (inb x3 8) <|
        lt_ (x2 + (C 43 x3.toNatClampNeg)) fun v10 =>
        lt_ (x3 + (1 : Int32)) fun v12 =>
        some (.inl (v10, v12)))))
def f_X8_priceTogether (N : Nat) (C : wg_C) (p1 : Int32) : Option Int32 :=
  bs2 (lp (fun o => f_X8_priceTogether_l4 N C  p1 o.1 o.2) N ((0 : Int32), (0 : Int32))) (fun v14 v15 =>
    some v14)
    (fun q18 => some q18)
abbrev G_X8_priceTogether (p : Program) (l : Launch) (e : Env) (s : State) (m : MethodId) (args : Array Value) (below : List Frame) (meth : Method) (c : Code) (E : wg_Ev) (ad : Nat → Nat) (S : wg_Sh) (r0 : Int32) (C0 : wg_C) (M0 : wg_M) (pc : Nat) (C : wg_C) (M : wg_M) (lv : List (Nat × Value)) (st : List Value) : Prop := wg_G p l e (wg_Rm 1 21) s m args below meth c (MQ below (wg_Qi E ad S r0 C0 M0) args s 0 0 (wg_A E)) 4 E ad S 0 0 pc C M lv st
set_option maxHeartbeats 4000000 in
set_option maxRecDepth 100000 in
theorem L_X8_priceTogether_l4 {p : Program} {l : Launch} {e : Env} {s : State} {m : MethodId} {args : Array Value} {below : List Frame} {meth : Method} {c : Code} {E : wg_Ev} {ad : Nat → Nat} {S : wg_Sh} (X : wg_X p s m args meth c cX8_priceTogether 4 RX8 E) (hr : meth.sig.returnType = (some .int)) (hS : wg_SC S) (r0 : Int32) (M : wg_M) (N : Nat)  (C : wg_C)  (x1 : Int32)  : ∀ (n : Nat) (x2 : Int32) (x3 : Int32) (o : ((Int32 × Int32) ⊕ Int32)), lp (fun o => f_X8_priceTogether_l4 N C  x1 o.1 o.2) n (x2, x3) = some o → (∀ (y2 : Int32) (y3 : Int32), o = Sum.inl (y2, y3) → G_X8_priceTogether p l e s m args below meth c E ad S r0 C M 45 C M [(0, .ref (ad 0)), (1, .int x1), (2, .int y2), (3, .int y3)] []) → (∀ q : Int32, o = Sum.inr q → q = r0) → G_X8_priceTogether p l e s m args below meth c E ad S r0 C M 4 C M [(0, .ref (ad 0)), (1, .int x1), (2, .int x2), (3, .int x3)] [] := by
  intro n
  induction n with
  | zero => exact fun _ _ o h => (lp_zero h).elim
  | succ n ih =>
    intro x2 x3 o h K KR
    obtain ⟨o1, hb, h2⟩ := lp_some h
    replace hb : f_X8_priceTogether_l4 N C  x1 x2 x3 = some o1 := hb
    clear h
    have Kc : ∀ (y2 : Int32) (y3 : Int32), o1 = Sum.inl (y2, y3) → G_X8_priceTogether p l e s m args below meth c E ad S r0 C M 4 C M [(0, .ref (ad 0)), (1, .int x1), (2, .int y2), (3, .int y3)] [] := fun y2 y3 e1 => by
      subst e1
      exact ih y2 y3 o h2 K KR
    have Ke : ∀ (y2 : Int32) (y3 : Int32), o1 = Sum.inr (Sum.inl (y2, y3)) → G_X8_priceTogether p l e s m args below meth c E ad S r0 C M 45 C M [(0, .ref (ad 0)), (1, .int x1), (2, .int y2), (3, .int y3)] [] := fun y2 y3 e1 => by
      subst e1
      exact K y2 y3 (sm_inj (α := ((Int32 × Int32) ⊕ Int32)) h2).symm
    have Kr : ∀ q : Int32, o1 = Sum.inr (Sum.inr q) → q = r0 := fun q e1 => by
      subst e1
      exact KR q (sm_inj (α := ((Int32 × Int32) ⊕ Int32)) h2).symm
    clear ih K h2 KR
    unfold f_X8_priceTogether_l4 at hb
    have h := hb
    clear hb
    refine wg_iload_n X 3 dX8_priceTogether_4 rfl rfl ?_
    refine wg_bipush (v := 8) X dX8_priceTogether_5 (by decide) ?_
    refine wg_icmp_ge X 45 dX8_priceTogether_7 (by decide) (fun c1 => ?_) (fun c1 => ?_)
    · have h := if_t c1 h
      exact Ke x2 x3 (sm_inj h).symm
    · have h := if_f c1 h
      refine wg_iload_n X 1 dX8_priceTogether_10 rfl rfl ?_
      refine wg_iload_n X 3 dX8_priceTogether_11 rfl rfl ?_
      obtain ⟨r3, h2, h⟩ := bd_some h
      refine wg_callSi (As := [.int x1, .int x3]) (rest := []) X (c_X8_holds l E ad S C M x1 x3  h2) T_yX8_holds k_789 dX8_priceTogether_12 rfl rfl (Nat.le_of_ble_eq_true rfl) ⟨Nat.le_of_ble_eq_true rfl, Nat.le_of_ble_eq_true rfl⟩ ⟨Nat.zero_le _, Nat.zero_le _⟩ ?_
      refine wg_if_eq X 39 dX8_priceTogether_15 (by decide) (fun c4 => ?_) (fun c4 => ?_)
      · have h := if_t c4 h
        obtain ⟨v5, e6, h⟩ := lt_some h
        refine wg_iinc (lv' := [(3, .int v5), (0, .ref (ad 0)), (1, .int x1), (2, .int x2)]) X 3 dX8_priceTogether_39 rfl e6 (by decide) rfl ?_
        refine wg_goto X 4 dX8_priceTogether_42 (by decide) ?_
        refine wg_pick [1, 2, 3, 0] (lv' := [(0, .ref (ad 0)), (1, .int x1), (2, .int x2), (3, .int v5)]) rfl ?_
        exact Kc x2 v5 (sm_inj h).symm
      · have h := if_f c4 h
        refine wg_aload_n X 0 dX8_priceTogether_18 rfl rfl ?_
        refine wg_getR (b := 43) X cl8 (SCi hS 0 8 rfl) 11 (by decide) dX8_priceTogether_19 k_483 rfl (SCr hS 0 11 43 rfl) ?_
        refine wg_iload_n X 3 dX8_priceTogether_22 rfl rfl ?_
        obtain ⟨z7, h⟩ := ck_some h
        refine wg_iald X (SCi hS 43 10 rfl) (SCl hS 43 8 rfl) z7 dX8_priceTogether_23 ?_
        refine wg_iconst (v := -1) X dX8_priceTogether_24 (by decide) ?_
        refine wg_icmp_ne X 30 dX8_priceTogether_25 (by decide) (fun c8 => ?_) (fun c8 => ?_)
        · have h := if_f c8 h
          refine wg_iload_n X 2 dX8_priceTogether_30 rfl rfl ?_
          refine wg_aload_n X 0 dX8_priceTogether_31 rfl rfl ?_
          refine wg_getR (b := 43) X cl8 (SCi hS 0 8 rfl) 11 (by decide) dX8_priceTogether_32 k_483 rfl (SCr hS 0 11 43 rfl) ?_
          refine wg_iload_n X 3 dX8_priceTogether_35 rfl rfl ?_
          obtain ⟨z9, h⟩ := ck_some h
          refine wg_iald X (SCi hS 43 10 rfl) (SCl hS 43 8 rfl) z9 dX8_priceTogether_36 ?_
          refine wg_iadd X dX8_priceTogether_37 ?_
          obtain ⟨v10, e11, h⟩ := lt_some h
          refine wg_istore_n (lv' := [(2, .int v10), (0, .ref (ad 0)), (1, .int x1), (3, .int x3)]) X dX8_priceTogether_38 rfl e11 (by decide) rfl ?_
          obtain ⟨v12, e13, h⟩ := lt_some h
          refine wg_iinc (lv' := [(3, .int v12), (2, .int v10), (0, .ref (ad 0)), (1, .int x1)]) X 3 dX8_priceTogether_39 rfl e13 (by decide) rfl ?_
          refine wg_goto X 4 dX8_priceTogether_42 (by decide) ?_
          refine wg_pick [2, 3, 1, 0] (lv' := [(0, .ref (ad 0)), (1, .int x1), (2, .int v10), (3, .int v12)]) rfl ?_
          exact Kc v10 v12 (sm_inj h).symm
        · have h := if_t c8 h
          refine wg_iconst (v := -1) X dX8_priceTogether_28 (by decide) ?_
          have hq := Kr _ (sm_inj h).symm
          exact wg_iret X ⟨hq, rfl, rfl⟩ hr dX8_priceTogether_29
set_option maxHeartbeats 4000000 in
set_option maxRecDepth 100000 in
theorem c_X8_priceTogether (l : Launch) (E : wg_Ev) (ad : Nat → Nat) (S : wg_Sh) (hS : wg_SC S) (N : Nat) (C : wg_C) (M : wg_M) (p1 : Int32)  {r0 : Int32} (h : f_X8_priceTogether N C p1 = some r0) : wg_Ci l yX8_priceTogether cX8_priceTogether 4 (some .int) 1 21 E ad S C M [.ref (ad 0), .int p1] r0 C M := by
  refine wg_start (own := RX8) (by decide +kernel) rfl (Nat.le_of_ble_eq_true rfl) ?_
  intro p e s m below meth c X hr hnm
  refine wg_lv (lv' := [(0, .ref (ad 0)), (1, .int p1)]) rfl ?_
  unfold f_X8_priceTogether at h
  refine wg_iconst (v := 0) X dX8_priceTogether_0 (by decide) ?_
  refine wg_istore_n (lv' := [(2, .int (0 : Int32)), (0, .ref (ad 0)), (1, .int p1)]) X dX8_priceTogether_1 rfl rfl (by decide) rfl ?_
  refine wg_iconst (v := 0) X dX8_priceTogether_2 (by decide) ?_
  refine wg_istore_n (lv' := [(3, .int (0 : Int32)), (2, .int (0 : Int32)), (0, .ref (ad 0)), (1, .int p1)]) X dX8_priceTogether_3 rfl rfl (by decide) rfl ?_
  obtain ⟨o16, h17, h⟩ := bs2_o h
  refine wg_pick [2, 3, 1, 0] (lv' := [(0, .ref (ad 0)), (1, .int p1), (2, .int (0 : Int32)), (3, .int (0 : Int32))]) rfl ?_
  refine L_X8_priceTogether_l4 X hr hS r0 M N  C  p1  N (0 : Int32) (0 : Int32) o16 h17 (fun v14 v15 e19 => ?_) (fun q18 e19 => ?_)
  · subst o16
    replace h := bs2_in h
    refine wg_iload_n X 2 dX8_priceTogether_45 rfl rfl ?_
    exact wg_iret X ⟨(sm_inj h), rfl, rfl⟩ hr dX8_priceTogether_46
  · subst o16
    replace h := bs2_r h
    exact sm_inj h
-- WindowsGive.digitsOf(I)I ('i',)
def f_X8_digitsOf_l4 (N : Nat)  (x0 : Int32) (x1 : Int32) (x2 : Int32) : Option ((Int32 × Int32) ⊕ (Int32 × Int32)) :=
  if (8 : Int32) ≤ x2 then (
    some (.inr (x1, x2)))
  else (
    bd (f_X8_holds x0 x2) fun r3 =>
    if r3 = 0 then (
      lt_ (x2 + (1 : Int32)) fun v5 =>
      some (.inl (x1, v5)))
    else (
      lt_ (((x1 * (10 : Int32)) + x2) + (1 : Int32)) fun v7 =>
      lt_ (x2 + (1 : Int32)) fun v9 =>
      some (.inl (v7, v9))))
def f_X8_digitsOf (N : Nat) (p0 : Int32) : Option Int32 :=
  bd2 (lp (fun o => f_X8_digitsOf_l4 N  p0 o.1 o.2) N ((0 : Int32), (0 : Int32))) fun v11 v12 =>
  some v11
abbrev G_X8_digitsOf (p : Program) (l : Launch) (e : Env) (s : State) (m : MethodId) (args : Array Value) (below : List Frame) (meth : Method) (c : Code) (E : wg_Ev) (ad : Nat → Nat) (S : wg_Sh) (r0 : Int32) (C0 : wg_C) (M0 : wg_M) (pc : Nat) (C : wg_C) (M : wg_M) (lv : List (Nat × Value)) (st : List Value) : Prop := wg_G p l e (wg_Rm 1 21) s m args below meth c (MQ below (wg_Qi E ad S r0 C0 M0) args s 0 0 (wg_A E)) 3 E ad S 0 0 pc C M lv st
set_option maxHeartbeats 4000000 in
set_option maxRecDepth 100000 in
theorem L_X8_digitsOf_l4 {p : Program} {l : Launch} {e : Env} {s : State} {m : MethodId} {args : Array Value} {below : List Frame} {meth : Method} {c : Code} {E : wg_Ev} {ad : Nat → Nat} {S : wg_Sh} (X : wg_X p s m args meth c cX8_digitsOf 3 RX8 E) (hr : meth.sig.returnType = (some .int)) (r0 : Int32) (C : wg_C) (M : wg_M) (N : Nat)   (x0 : Int32)  : ∀ (n : Nat) (x1 : Int32) (x2 : Int32) (o : (Int32 × Int32)), lp (fun o => f_X8_digitsOf_l4 N  x0 o.1 o.2) n (x1, x2) = some o → (∀ (y1 : Int32) (y2 : Int32), o = (y1, y2) → G_X8_digitsOf p l e s m args below meth c E ad S r0 C M 33 C M [(0, .int x0), (1, .int y1), (2, .int y2)] []) → G_X8_digitsOf p l e s m args below meth c E ad S r0 C M 4 C M [(0, .int x0), (1, .int x1), (2, .int x2)] [] := by
  intro n
  induction n with
  | zero => exact fun _ _ o h => (lp_zero h).elim
  | succ n ih =>
    intro x1 x2 o h K
    obtain ⟨o1, hb, h2⟩ := lp_some h
    replace hb : f_X8_digitsOf_l4 N  x0 x1 x2 = some o1 := hb
    clear h
    have Kc : ∀ (y1 : Int32) (y2 : Int32), o1 = Sum.inl (y1, y2) → G_X8_digitsOf p l e s m args below meth c E ad S r0 C M 4 C M [(0, .int x0), (1, .int y1), (2, .int y2)] [] := fun y1 y2 e1 => by
      subst e1
      exact ih y1 y2 o h2 K
    have Ke : ∀ (y1 : Int32) (y2 : Int32), o1 = Sum.inr ((y1, y2)) → G_X8_digitsOf p l e s m args below meth c E ad S r0 C M 33 C M [(0, .int x0), (1, .int y1), (2, .int y2)] [] := fun y1 y2 e1 => by
      subst e1
      exact K y1 y2 (sm_inj (α := (Int32 × Int32)) h2).symm
    clear ih K h2
    unfold f_X8_digitsOf_l4 at hb
    have h := hb
    clear hb
    refine wg_iload_n X 2 dX8_digitsOf_4 rfl rfl ?_
    refine wg_bipush (v := 8) X dX8_digitsOf_5 (by decide) ?_
    refine wg_icmp_ge X 33 dX8_digitsOf_7 (by decide) (fun c1 => ?_) (fun c1 => ?_)
    · have h := if_t c1 h
      exact Ke x1 x2 (sm_inj h).symm
    · have h := if_f c1 h
      refine wg_iload_n X 0 dX8_digitsOf_10 rfl rfl ?_
      refine wg_iload_n X 2 dX8_digitsOf_11 rfl rfl ?_
      obtain ⟨r3, h2, h⟩ := bd_some h
      refine wg_callSi (As := [.int x0, .int x2]) (rest := []) X (c_X8_holds l E ad S C M x0 x2  h2) T_yX8_holds k_789 dX8_digitsOf_12 rfl rfl (Nat.le_of_ble_eq_true rfl) ⟨Nat.le_of_ble_eq_true rfl, Nat.le_of_ble_eq_true rfl⟩ ⟨Nat.zero_le _, Nat.zero_le _⟩ ?_
      refine wg_if_eq X 27 dX8_digitsOf_15 (by decide) (fun c4 => ?_) (fun c4 => ?_)
      · have h := if_t c4 h
        obtain ⟨v5, e6, h⟩ := lt_some h
        refine wg_iinc (lv' := [(2, .int v5), (0, .int x0), (1, .int x1)]) X 2 dX8_digitsOf_27 rfl e6 (by decide) rfl ?_
        refine wg_goto X 4 dX8_digitsOf_30 (by decide) ?_
        refine wg_pick [1, 2, 0] (lv' := [(0, .int x0), (1, .int x1), (2, .int v5)]) rfl ?_
        exact Kc x1 v5 (sm_inj h).symm
      · have h := if_f c4 h
        refine wg_iload_n X 1 dX8_digitsOf_18 rfl rfl ?_
        refine wg_bipush (v := 10) X dX8_digitsOf_19 (by decide) ?_
        refine wg_imul X dX8_digitsOf_21 ?_
        refine wg_iload_n X 2 dX8_digitsOf_22 rfl rfl ?_
        refine wg_iadd X dX8_digitsOf_23 ?_
        refine wg_iconst (v := 1) X dX8_digitsOf_24 (by decide) ?_
        refine wg_iadd X dX8_digitsOf_25 ?_
        obtain ⟨v7, e8, h⟩ := lt_some h
        refine wg_istore_n (lv' := [(1, .int v7), (0, .int x0), (2, .int x2)]) X dX8_digitsOf_26 rfl e8 (by decide) rfl ?_
        obtain ⟨v9, e10, h⟩ := lt_some h
        refine wg_iinc (lv' := [(2, .int v9), (1, .int v7), (0, .int x0)]) X 2 dX8_digitsOf_27 rfl e10 (by decide) rfl ?_
        refine wg_goto X 4 dX8_digitsOf_30 (by decide) ?_
        refine wg_pick [2, 1, 0] (lv' := [(0, .int x0), (1, .int v7), (2, .int v9)]) rfl ?_
        exact Kc v7 v9 (sm_inj h).symm
set_option maxHeartbeats 4000000 in
set_option maxRecDepth 100000 in
theorem c_X8_digitsOf (l : Launch) (E : wg_Ev) (ad : Nat → Nat) (S : wg_Sh) (N : Nat) (C : wg_C) (M : wg_M) (p0 : Int32)  {r0 : Int32} (h : f_X8_digitsOf N p0 = some r0) : wg_Ci l yX8_digitsOf cX8_digitsOf 3 (some .int) 1 21 E ad S C M [.int p0] r0 C M := by
  refine wg_start (own := RX8) (by decide +kernel) rfl (Nat.le_of_ble_eq_true rfl) ?_
  intro p e s m below meth c X hr hnm
  refine wg_lv (lv' := [(0, .int p0)]) rfl ?_
  unfold f_X8_digitsOf at h
  refine wg_iconst (v := 0) X dX8_digitsOf_0 (by decide) ?_
  refine wg_istore_n (lv' := [(1, .int (0 : Int32)), (0, .int p0)]) X dX8_digitsOf_1 rfl rfl (by decide) rfl ?_
  refine wg_iconst (v := 0) X dX8_digitsOf_2 (by decide) ?_
  refine wg_istore_n (lv' := [(2, .int (0 : Int32)), (1, .int (0 : Int32)), (0, .int p0)]) X dX8_digitsOf_3 rfl rfl (by decide) rfl ?_
  obtain ⟨o13, h14, h⟩ := bd2_o h
  refine wg_pick [2, 1, 0] (lv' := [(0, .int p0), (1, .int (0 : Int32)), (2, .int (0 : Int32))]) rfl ?_
  refine L_X8_digitsOf_l4 X hr r0 C M N   p0  N (0 : Int32) (0 : Int32) o13 h14 (fun v11 v12 e16 => ?_)
  · subst o13
    replace h := bd2_in h
    refine wg_iload_n X 1 dX8_digitsOf_33 rfl rfl ?_
    exact wg_iret X ⟨(sm_inj h), rfl, rfl⟩ hr dX8_digitsOf_34
